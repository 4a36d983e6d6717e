/-! the methods of Tp, Vi, Tb, Me, Ru: their instructions, and that each is right (written by wip/whole/gen.py) -/
theorem d_Me_clear_0 : decode b_Me_clear 0 = .ok (.aload_n 0, 1) := by decide +kernel
theorem d_Me_clear_1 : decode b_Me_clear 1 = .ok (.iconst 0, 1) := by decide +kernel
theorem d_Me_clear_2 : decode b_Me_clear 2 = .ok (.putfield 15, 3) := by decide +kernel
theorem d_Me_clear_5 : decode b_Me_clear 5 = .ok (.return_, 1) := by decide +kernel
def q_Me_clear : List (Nat × j_S) := [(0, j_ld 2 0 1),
  (1, j_st (f_psh (.int 0)) 2),
  (2, j_pf [4] 1 0 5),
  (5, j_rv)]
def i_Me_clear : j_I := (R_Me, b_Me_clear, 1, false, none, [])
def e_Me_clear : j_E := ((y_Me_clear, c_Me_clear), i_Me_clear, j_tab q_Me_clear, [])
theorem o_Me_clear (G : j_G) : j_mok G tm e_Me_clear := ⟨by decide +kernel, Or.inl ⟨rfl, rfl⟩, rfl, (fun h => by cases h), j_tab_ok (i := i_Me_clear) (l := q_Me_clear) (j_all_mem ⟨r_aload_n d_Me_clear_0 rfl,
  r_iconst d_Me_clear_1 (by decide),
  r_putfield (fin := false) (j_all_mem ⟨⟨_, _, _, t_Me, _, rfl, w_Me, t_Me_ok, n_Me, by decide, rfl, t_Me_ok 1 (by decide), Or.inl ⟨rfl, rfl⟩, ⟨_, k_119, Or.inl rfl⟩, (fun h => by cases h)⟩, trivial⟩) (fun h => by cases h) d_Me_clear_2,
  r_return d_Me_clear_5 rfl, trivial⟩), (fun q h => by cases h), (fun _ => rfl)⟩
theorem d_Me_count_0 : decode b_Me_count 0 = .ok (.aload_n 0, 1) := by decide +kernel
theorem d_Me_count_1 : decode b_Me_count 1 = .ok (.getfield 15, 3) := by decide +kernel
theorem d_Me_count_4 : decode b_Me_count 4 = .ok (.ireturn, 1) := by decide +kernel
def q_Me_count : List (Nat × j_S) := [(0, j_ld 2 0 1),
  (1, j_gf [4] 1 4),
  (4, j_rt 0)]
def i_Me_count : j_I := (R_Me, b_Me_count, 1, false, (some .int), [])
def e_Me_count : j_E := ((y_Me_count, c_Me_count), i_Me_count, j_tab q_Me_count, [])
theorem o_Me_count (G : j_G) : j_mok G tm e_Me_count := ⟨by decide +kernel, Or.inl ⟨rfl, rfl⟩, rfl, (fun h => by cases h), j_tab_ok (i := i_Me_count) (l := q_Me_count) (j_all_mem ⟨r_aload_n d_Me_count_0 rfl,
  r_getfield (j_all_mem ⟨⟨_, _, _, rfl, w_Me, by decide, ⟨_, k_119, Or.inl rfl⟩⟩, trivial⟩) d_Me_count_1,
  r_ireturn d_Me_count_4 rfl, trivial⟩), (fun q h => by cases h), (fun _ => rfl)⟩
theorem d_Me_init_0 : decode b_Me_init 0 = .ok (.aload_n 0, 1) := by decide +kernel
theorem d_Me_init_1 : decode b_Me_init 1 = .ok (.invokespecial 3, 3) := by decide +kernel
theorem d_Me_init_4 : decode b_Me_init 4 = .ok (.aload_n 0, 1) := by decide +kernel
theorem d_Me_init_5 : decode b_Me_init 5 = .ok (.sipush 3000, 3) := by decide +kernel
theorem d_Me_init_8 : decode b_Me_init 8 = .ok (.newarray .long, 2) := by decide +kernel
theorem d_Me_init_10 : decode b_Me_init 10 = .ok (.putfield 9, 3) := by decide +kernel
theorem d_Me_init_13 : decode b_Me_init 13 = .ok (.return_, 1) := by decide +kernel
def q_Me_init : List (Nat × j_S) := [(0, j_ld 2 0 1),
  (1, j_ci 112 0),
  (4, j_ld 2 0 5),
  (5, j_st (f_psh (.int 3000)) 8),
  (8, j_na 1 10),
  (10, j_pf [4] 2 2 13),
  (13, j_rv)]
def i_Me_init : j_I := (R_Me, b_Me_init, 1, true, none, [])
def e_Me_init : j_E := ((y_Me_init, c_Me_init), i_Me_init, j_tab q_Me_init, [])
theorem o_Me_init (G : j_G) : j_mok G tm e_Me_init := ⟨by decide +kernel, Or.inl ⟨rfl, rfl⟩, rfl, (fun _ => rfl), j_tab_ok (i := i_Me_init) (l := q_Me_init) (j_all_mem ⟨r_aload_n d_Me_init_0 rfl,
  r_invIN k_103 k_104 rfl rfl cw_Ru_init (by decide) (by decide +kernel) d_Me_init_1,
  r_aload_n d_Me_init_4 rfl,
  r_sipush d_Me_init_5 (by decide),
  r_newarray rfl rfl k_117 (by decide) (fun _ => rfl) (fun U cA h1 h2 => Option.some.inj (h2.symm.trans h1)) d_Me_init_8,
  r_putfield (fin := true) (j_all_mem ⟨⟨_, _, _, t_Me, _, rfl, w_Me, t_Me_ok, n_Me, by decide, rfl, t_Me_ok 2 (by decide), Or.inr (Or.inr (Or.inl ⟨rfl, by first | exact Or.inl ⟨_, rfl⟩ | exact Or.inr ⟨_, rfl⟩⟩)), ⟨_, k_118, Or.inl rfl⟩, (fun _ => rfl)⟩, trivial⟩) (fun _ => rfl) d_Me_init_10,
  r_return d_Me_init_13 rfl, trivial⟩), (fun q h => by cases h), (fun _ => rfl)⟩
theorem d_Me_insert_0 : decode b_Me_insert 0 = .ok (.aload_n 0, 1) := by decide +kernel
theorem d_Me_insert_1 : decode b_Me_insert 1 = .ok (.getfield 15, 3) := by decide +kernel
theorem d_Me_insert_4 : decode b_Me_insert 4 = .ok (.sipush 500, 3) := by decide +kernel
theorem d_Me_insert_7 : decode b_Me_insert 7 = .ok (.if_icmp .ge 62, 3) := by decide +kernel
theorem d_Me_insert_10 : decode b_Me_insert 10 = .ok (.aload_n 0, 1) := by decide +kernel
theorem d_Me_insert_11 : decode b_Me_insert 11 = .ok (.aload_n 1, 1) := by decide +kernel
theorem d_Me_insert_12 : decode b_Me_insert 12 = .ok (.invokevirtual 31, 3) := by decide +kernel
theorem d_Me_insert_15 : decode b_Me_insert 15 = .ok (.bipush 6, 2) := by decide +kernel
theorem d_Me_insert_17 : decode b_Me_insert 17 = .ok (.imul, 1) := by decide +kernel
theorem d_Me_insert_18 : decode b_Me_insert 18 = .ok (.istore_n 2, 1) := by decide +kernel
theorem d_Me_insert_19 : decode b_Me_insert 19 = .ok (.aload_n 0, 1) := by decide +kernel
theorem d_Me_insert_20 : decode b_Me_insert 20 = .ok (.getfield 9, 3) := by decide +kernel
theorem d_Me_insert_23 : decode b_Me_insert 23 = .ok (.iload_n 2, 1) := by decide +kernel
theorem d_Me_insert_24 : decode b_Me_insert 24 = .ok (.aload_n 0, 1) := by decide +kernel
theorem d_Me_insert_25 : decode b_Me_insert 25 = .ok (.getfield 9, 3) := by decide +kernel
theorem d_Me_insert_28 : decode b_Me_insert 28 = .ok (.iload_n 2, 1) := by decide +kernel
theorem d_Me_insert_29 : decode b_Me_insert 29 = .ok (.bipush 6, 2) := by decide +kernel
theorem d_Me_insert_31 : decode b_Me_insert 31 = .ok (.iadd, 1) := by decide +kernel
theorem d_Me_insert_32 : decode b_Me_insert 32 = .ok (.aload_n 0, 1) := by decide +kernel
theorem d_Me_insert_33 : decode b_Me_insert 33 = .ok (.getfield 15, 3) := by decide +kernel
theorem d_Me_insert_36 : decode b_Me_insert 36 = .ok (.bipush 6, 2) := by decide +kernel
theorem d_Me_insert_38 : decode b_Me_insert 38 = .ok (.imul, 1) := by decide +kernel
theorem d_Me_insert_39 : decode b_Me_insert 39 = .ok (.iload_n 2, 1) := by decide +kernel
theorem d_Me_insert_40 : decode b_Me_insert 40 = .ok (.isub, 1) := by decide +kernel
theorem d_Me_insert_41 : decode b_Me_insert 41 = .ok (.invokestatic 25, 3) := by decide +kernel
theorem d_Me_insert_44 : decode b_Me_insert 44 = .ok (.aload_n 1, 1) := by decide +kernel
theorem d_Me_insert_45 : decode b_Me_insert 45 = .ok (.invokevirtual 19, 3) := by decide +kernel
theorem d_Me_insert_48 : decode b_Me_insert 48 = .ok (.iconst 0, 1) := by decide +kernel
theorem d_Me_insert_49 : decode b_Me_insert 49 = .ok (.aload_n 0, 1) := by decide +kernel
theorem d_Me_insert_50 : decode b_Me_insert 50 = .ok (.getfield 9, 3) := by decide +kernel
theorem d_Me_insert_53 : decode b_Me_insert 53 = .ok (.iload_n 2, 1) := by decide +kernel
theorem d_Me_insert_54 : decode b_Me_insert 54 = .ok (.bipush 6, 2) := by decide +kernel
theorem d_Me_insert_56 : decode b_Me_insert 56 = .ok (.invokestatic 25, 3) := by decide +kernel
theorem d_Me_insert_59 : decode b_Me_insert 59 = .ok (.aload_n 0, 1) := by decide +kernel
theorem d_Me_insert_60 : decode b_Me_insert 60 = .ok (.dup, 1) := by decide +kernel
theorem d_Me_insert_61 : decode b_Me_insert 61 = .ok (.getfield 15, 3) := by decide +kernel
theorem d_Me_insert_64 : decode b_Me_insert 64 = .ok (.iconst 1, 1) := by decide +kernel
theorem d_Me_insert_65 : decode b_Me_insert 65 = .ok (.iadd, 1) := by decide +kernel
theorem d_Me_insert_66 : decode b_Me_insert 66 = .ok (.putfield 15, 3) := by decide +kernel
theorem d_Me_insert_69 : decode b_Me_insert 69 = .ok (.return_, 1) := by decide +kernel
def q_Me_insert : List (Nat × j_S) := [(0, j_ld 2 0 1),
  (1, j_gf [4] 1 4),
  (4, j_st (f_psh (.int 500)) 7),
  (7, j_br (f_ic (fun x y => decide (y ≤ x))) 69 10),
  (10, j_ld 2 0 11),
  (11, j_ld 2 1 12),
  (12, j_cv [(4, 111)] 1),
  (15, j_st (f_psh (.int 6)) 17),
  (17, j_st (f_ii (fun a b => a * b)) 18),
  (18, j_so 0 2 19),
  (19, j_ld 2 0 20),
  (20, j_gf [4] 2 23),
  (23, j_ld 0 2 24),
  (24, j_ld 2 0 25),
  (25, j_gf [4] 2 28),
  (28, j_ld 0 2 29),
  (29, j_st (f_psh (.int 6)) 31),
  (31, j_st (f_ii (fun a b => a + b)) 32),
  (32, j_ld 2 0 33),
  (33, j_gf [4] 1 36),
  (36, j_st (f_psh (.int 6)) 38),
  (38, j_st (f_ii (fun a b => a * b)) 39),
  (39, j_ld 0 2 40),
  (40, j_st (f_ii (fun a b => a - b)) 41),
  (41, j_cpl 44),
  (44, j_ld 2 1 45),
  (45, j_cv [(8, 142)] 0),
  (48, j_st (f_psh (.int 0)) 49),
  (49, j_ld 2 0 50),
  (50, j_gf [4] 2 53),
  (53, j_ld 0 2 54),
  (54, j_st (f_psh (.int 6)) 56),
  (56, j_cpl 59),
  (59, j_ld 2 0 60),
  (60, j_st (f_dup) 61),
  (61, j_gf [4] 1 64),
  (64, j_st (f_psh (.int 1)) 65),
  (65, j_st (f_ii (fun a b => a + b)) 66),
  (66, j_pf [4] 1 0 69),
  (69, j_rv)]
def i_Me_insert : j_I := (R_Me, b_Me_insert, 3, false, none, [])
def e_Me_insert : j_E := ((y_Me_insert, c_Me_insert), i_Me_insert, j_tab q_Me_insert, [])
theorem o_Me_insert (G : j_G) : j_mok G tm e_Me_insert := ⟨by decide +kernel, Or.inl ⟨rfl, rfl⟩, rfl, (fun h => by cases h), j_tab_ok (i := i_Me_insert) (l := q_Me_insert) (j_all_mem ⟨r_aload_n d_Me_insert_0 rfl,
  r_getfield (j_all_mem ⟨⟨_, _, _, rfl, w_Me, by decide, ⟨_, k_119, Or.inl rfl⟩⟩, trivial⟩) d_Me_insert_1,
  r_sipush d_Me_insert_4 (by decide),
  r_ic_ge d_Me_insert_7 (by decide),
  r_aload_n d_Me_insert_10 rfl,
  r_aload_n d_Me_insert_11 rfl,
  r_invU (y0 := ⟨"LevelTables$Memory", "firstNotBefore", "(LLevelTables$Version;)I"⟩) (owner := "LevelTables$Run") (j_all_mem ⟨⟨⟨_, _, _, rfl, k_1135, k_1136, k_1137, k_326⟩, cw_Ru_firstNotBefore, by decide, by decide +kernel⟩, trivial⟩) (fun A U h hK => va_Decl.abs (hK.nw k_324)) d_Me_insert_12,
  r_bipush d_Me_insert_15 (by decide),
  r_imul d_Me_insert_17,
  r_istore_n d_Me_insert_18 rfl (by decide),
  r_aload_n d_Me_insert_19 rfl,
  r_getfield (j_all_mem ⟨⟨_, _, _, rfl, w_Me, by decide, ⟨_, k_118, Or.inl rfl⟩⟩, trivial⟩) d_Me_insert_20,
  r_iload_n d_Me_insert_23 rfl,
  r_aload_n d_Me_insert_24 rfl,
  r_getfield (j_all_mem ⟨⟨_, _, _, rfl, w_Me, by decide, ⟨_, k_118, Or.inl rfl⟩⟩, trivial⟩) d_Me_insert_25,
  r_iload_n d_Me_insert_28 rfl,
  r_bipush d_Me_insert_29 (by decide),
  r_iadd d_Me_insert_31,
  r_aload_n d_Me_insert_32 rfl,
  r_getfield (j_all_mem ⟨⟨_, _, _, rfl, w_Me, by decide, ⟨_, k_119, Or.inl rfl⟩⟩, trivial⟩) d_Me_insert_33,
  r_bipush d_Me_insert_36 (by decide),
  r_imul d_Me_insert_38,
  r_iload_n d_Me_insert_39 rfl,
  r_isub d_Me_insert_40,
  r_copyl ⟨k_303, k_305, k_304, k_22⟩ d_Me_insert_41,
  r_aload_n d_Me_insert_44 rfl,
  r_invV (j_all_mem ⟨⟨⟨_, _, _, rfl, k_299, k_300, k_301⟩, cw_Ve_words, by decide, by decide +kernel⟩, trivial⟩) d_Me_insert_45,
  r_iconst d_Me_insert_48 (by decide),
  r_aload_n d_Me_insert_49 rfl,
  r_getfield (j_all_mem ⟨⟨_, _, _, rfl, w_Me, by decide, ⟨_, k_118, Or.inl rfl⟩⟩, trivial⟩) d_Me_insert_50,
  r_iload_n d_Me_insert_53 rfl,
  r_bipush d_Me_insert_54 (by decide),
  r_copyl ⟨k_303, k_305, k_304, k_22⟩ d_Me_insert_56,
  r_aload_n d_Me_insert_59 rfl,
  r_dup d_Me_insert_60,
  r_getfield (j_all_mem ⟨⟨_, _, _, rfl, w_Me, by decide, ⟨_, k_119, Or.inl rfl⟩⟩, trivial⟩) d_Me_insert_61,
  r_iconst d_Me_insert_64 (by decide),
  r_iadd d_Me_insert_65,
  r_putfield (fin := false) (j_all_mem ⟨⟨_, _, _, t_Me, _, rfl, w_Me, t_Me_ok, n_Me, by decide, rfl, t_Me_ok 1 (by decide), Or.inl ⟨rfl, rfl⟩, ⟨_, k_119, Or.inl rfl⟩, (fun h => by cases h)⟩, trivial⟩) (fun h => by cases h) d_Me_insert_66,
  r_return d_Me_insert_69 rfl, trivial⟩), (fun q h => by cases h), (fun _ => rfl)⟩
theorem d_Me_load_0 : decode b_Me_load 0 = .ok (.iload_n 1, 1) := by decide +kernel
theorem d_Me_load_1 : decode b_Me_load 1 = .ok (.ifCond .lt 29, 3) := by decide +kernel
theorem d_Me_load_4 : decode b_Me_load 4 = .ok (.iload_n 1, 1) := by decide +kernel
theorem d_Me_load_5 : decode b_Me_load 5 = .ok (.aload_n 0, 1) := by decide +kernel
theorem d_Me_load_6 : decode b_Me_load 6 = .ok (.getfield 15, 3) := by decide +kernel
theorem d_Me_load_9 : decode b_Me_load 9 = .ok (.if_icmp .ge 21, 3) := by decide +kernel
theorem d_Me_load_12 : decode b_Me_load 12 = .ok (.aload_n 0, 1) := by decide +kernel
theorem d_Me_load_13 : decode b_Me_load 13 = .ok (.getfield 9, 3) := by decide +kernel
theorem d_Me_load_16 : decode b_Me_load 16 = .ok (.iload_n 1, 1) := by decide +kernel
theorem d_Me_load_17 : decode b_Me_load 17 = .ok (.bipush 6, 2) := by decide +kernel
theorem d_Me_load_19 : decode b_Me_load 19 = .ok (.imul, 1) := by decide +kernel
theorem d_Me_load_20 : decode b_Me_load 20 = .ok (.aload_n 2, 1) := by decide +kernel
theorem d_Me_load_21 : decode b_Me_load 21 = .ok (.invokevirtual 19, 3) := by decide +kernel
theorem d_Me_load_24 : decode b_Me_load 24 = .ok (.iconst 0, 1) := by decide +kernel
theorem d_Me_load_25 : decode b_Me_load 25 = .ok (.bipush 6, 2) := by decide +kernel
theorem d_Me_load_27 : decode b_Me_load 27 = .ok (.invokestatic 25, 3) := by decide +kernel
theorem d_Me_load_30 : decode b_Me_load 30 = .ok (.return_, 1) := by decide +kernel
def q_Me_load : List (Nat × j_S) := [(0, j_ld 0 1 1),
  (1, j_br (f_if (fun x => decide (x < 0))) 30 4),
  (4, j_ld 0 1 5),
  (5, j_ld 2 0 6),
  (6, j_gf [4] 1 9),
  (9, j_br (f_ic (fun x y => decide (y ≤ x))) 30 12),
  (12, j_ld 2 0 13),
  (13, j_gf [4] 2 16),
  (16, j_ld 0 1 17),
  (17, j_st (f_psh (.int 6)) 19),
  (19, j_st (f_ii (fun a b => a * b)) 20),
  (20, j_ld 2 2 21),
  (21, j_cv [(8, 142)] 0),
  (24, j_st (f_psh (.int 0)) 25),
  (25, j_st (f_psh (.int 6)) 27),
  (27, j_cpl 30),
  (30, j_rv)]
def i_Me_load : j_I := (R_Me, b_Me_load, 3, false, none, [])
def e_Me_load : j_E := ((y_Me_load, c_Me_load), i_Me_load, j_tab q_Me_load, [])
theorem o_Me_load (G : j_G) : j_mok G tm e_Me_load := ⟨by decide +kernel, Or.inl ⟨rfl, rfl⟩, rfl, (fun h => by cases h), j_tab_ok (i := i_Me_load) (l := q_Me_load) (j_all_mem ⟨r_iload_n d_Me_load_0 rfl,
  r_if_lt d_Me_load_1 (by decide),
  r_iload_n d_Me_load_4 rfl,
  r_aload_n d_Me_load_5 rfl,
  r_getfield (j_all_mem ⟨⟨_, _, _, rfl, w_Me, by decide, ⟨_, k_119, Or.inl rfl⟩⟩, trivial⟩) d_Me_load_6,
  r_ic_ge d_Me_load_9 (by decide),
  r_aload_n d_Me_load_12 rfl,
  r_getfield (j_all_mem ⟨⟨_, _, _, rfl, w_Me, by decide, ⟨_, k_118, Or.inl rfl⟩⟩, trivial⟩) d_Me_load_13,
  r_iload_n d_Me_load_16 rfl,
  r_bipush d_Me_load_17 (by decide),
  r_imul d_Me_load_19,
  r_aload_n d_Me_load_20 rfl,
  r_invV (j_all_mem ⟨⟨⟨_, _, _, rfl, k_299, k_300, k_301⟩, cw_Ve_words, by decide, by decide +kernel⟩, trivial⟩) d_Me_load_21,
  r_iconst d_Me_load_24 (by decide),
  r_bipush d_Me_load_25 (by decide),
  r_copyl ⟨k_303, k_305, k_304, k_22⟩ d_Me_load_27,
  r_return d_Me_load_30 rfl, trivial⟩), (fun q h => by cases h), (fun _ => rfl)⟩
theorem d_Ru_firstNotBefore_0 : decode b_Ru_firstNotBefore 0 = .ok (.iconst 0, 1) := by decide +kernel
theorem d_Ru_firstNotBefore_1 : decode b_Ru_firstNotBefore 1 = .ok (.istore_n 2, 1) := by decide +kernel
theorem d_Ru_firstNotBefore_2 : decode b_Ru_firstNotBefore 2 = .ok (.aload_n 0, 1) := by decide +kernel
theorem d_Ru_firstNotBefore_3 : decode b_Ru_firstNotBefore 3 = .ok (.invokevirtual 16, 3) := by decide +kernel
theorem d_Ru_firstNotBefore_6 : decode b_Ru_firstNotBefore 6 = .ok (.istore_n 3, 1) := by decide +kernel
theorem d_Ru_firstNotBefore_7 : decode b_Ru_firstNotBefore 7 = .ok (.iload_n 3, 1) := by decide +kernel
theorem d_Ru_firstNotBefore_8 : decode b_Ru_firstNotBefore 8 = .ok (.ifCond .le 54, 3) := by decide +kernel
theorem d_Ru_firstNotBefore_11 : decode b_Ru_firstNotBefore 11 = .ok (.iload_n 3, 1) := by decide +kernel
theorem d_Ru_firstNotBefore_12 : decode b_Ru_firstNotBefore 12 = .ok (.iconst 1, 1) := by decide +kernel
theorem d_Ru_firstNotBefore_13 : decode b_Ru_firstNotBefore 13 = .ok (.ishr, 1) := by decide +kernel
theorem d_Ru_firstNotBefore_14 : decode b_Ru_firstNotBefore 14 = .ok (.istore 4, 2) := by decide +kernel
theorem d_Ru_firstNotBefore_16 : decode b_Ru_firstNotBefore 16 = .ok (.aload_n 0, 1) := by decide +kernel
theorem d_Ru_firstNotBefore_17 : decode b_Ru_firstNotBefore 17 = .ok (.iload_n 2, 1) := by decide +kernel
theorem d_Ru_firstNotBefore_18 : decode b_Ru_firstNotBefore 18 = .ok (.iload 4, 2) := by decide +kernel
theorem d_Ru_firstNotBefore_20 : decode b_Ru_firstNotBefore 20 = .ok (.iadd, 1) := by decide +kernel
theorem d_Ru_firstNotBefore_21 : decode b_Ru_firstNotBefore 21 = .ok (.aload_n 0, 1) := by decide +kernel
theorem d_Ru_firstNotBefore_22 : decode b_Ru_firstNotBefore 22 = .ok (.getfield 10, 3) := by decide +kernel
theorem d_Ru_firstNotBefore_25 : decode b_Ru_firstNotBefore 25 = .ok (.invokevirtual 20, 3) := by decide +kernel
theorem d_Ru_firstNotBefore_28 : decode b_Ru_firstNotBefore 28 = .ok (.aload_n 0, 1) := by decide +kernel
theorem d_Ru_firstNotBefore_29 : decode b_Ru_firstNotBefore 29 = .ok (.getfield 10, 3) := by decide +kernel
theorem d_Ru_firstNotBefore_32 : decode b_Ru_firstNotBefore 32 = .ok (.aload_n 1, 1) := by decide +kernel
theorem d_Ru_firstNotBefore_33 : decode b_Ru_firstNotBefore 33 = .ok (.invokevirtual 24, 3) := by decide +kernel
theorem d_Ru_firstNotBefore_36 : decode b_Ru_firstNotBefore 36 = .ok (.ifCond .eq 20, 3) := by decide +kernel
theorem d_Ru_firstNotBefore_39 : decode b_Ru_firstNotBefore 39 = .ok (.iload_n 2, 1) := by decide +kernel
theorem d_Ru_firstNotBefore_40 : decode b_Ru_firstNotBefore 40 = .ok (.iload 4, 2) := by decide +kernel
theorem d_Ru_firstNotBefore_42 : decode b_Ru_firstNotBefore 42 = .ok (.iconst 1, 1) := by decide +kernel
theorem d_Ru_firstNotBefore_43 : decode b_Ru_firstNotBefore 43 = .ok (.iadd, 1) := by decide +kernel
theorem d_Ru_firstNotBefore_44 : decode b_Ru_firstNotBefore 44 = .ok (.iadd, 1) := by decide +kernel
theorem d_Ru_firstNotBefore_45 : decode b_Ru_firstNotBefore 45 = .ok (.istore_n 2, 1) := by decide +kernel
theorem d_Ru_firstNotBefore_46 : decode b_Ru_firstNotBefore 46 = .ok (.iload_n 3, 1) := by decide +kernel
theorem d_Ru_firstNotBefore_47 : decode b_Ru_firstNotBefore 47 = .ok (.iload 4, 2) := by decide +kernel
theorem d_Ru_firstNotBefore_49 : decode b_Ru_firstNotBefore 49 = .ok (.iconst 1, 1) := by decide +kernel
theorem d_Ru_firstNotBefore_50 : decode b_Ru_firstNotBefore 50 = .ok (.iadd, 1) := by decide +kernel
theorem d_Ru_firstNotBefore_51 : decode b_Ru_firstNotBefore 51 = .ok (.isub, 1) := by decide +kernel
theorem d_Ru_firstNotBefore_52 : decode b_Ru_firstNotBefore 52 = .ok (.istore_n 3, 1) := by decide +kernel
theorem d_Ru_firstNotBefore_53 : decode b_Ru_firstNotBefore 53 = .ok (.goto 6, 3) := by decide +kernel
theorem d_Ru_firstNotBefore_56 : decode b_Ru_firstNotBefore 56 = .ok (.iload 4, 2) := by decide +kernel
theorem d_Ru_firstNotBefore_58 : decode b_Ru_firstNotBefore 58 = .ok (.istore_n 3, 1) := by decide +kernel
theorem d_Ru_firstNotBefore_59 : decode b_Ru_firstNotBefore 59 = .ok (.goto (-52), 3) := by decide +kernel
theorem d_Ru_firstNotBefore_62 : decode b_Ru_firstNotBefore 62 = .ok (.iload_n 2, 1) := by decide +kernel
theorem d_Ru_firstNotBefore_63 : decode b_Ru_firstNotBefore 63 = .ok (.ireturn, 1) := by decide +kernel
def q_Ru_firstNotBefore : List (Nat × j_S) := [(0, j_st (f_psh (.int 0)) 1),
  (1, j_so 0 2 2),
  (2, j_ld 2 0 3),
  (3, j_cv [(5, 69), (4, 83)] 0),
  (6, j_so 0 3 7),
  (7, j_ld 0 3 8),
  (8, j_br (f_if (fun x => decide (x ≤ 0))) 62 11),
  (11, j_ld 0 3 12),
  (12, j_st (f_psh (.int 1)) 13),
  (13, j_st (f_ii (fun a b => a >>> (b &&& 31))) 14),
  (14, j_so 0 4 16),
  (16, j_ld 2 0 17),
  (17, j_ld 0 2 18),
  (18, j_ld 0 4 20),
  (20, j_st (f_ii (fun a b => a + b)) 21),
  (21, j_ld 2 0 22),
  (22, j_gf [4, 5] 0 25),
  (25, j_cv [(5, 76), (4, 86)] 2),
  (28, j_ld 2 0 29),
  (29, j_gf [4, 5] 0 32),
  (32, j_ld 2 1 33),
  (33, j_cv [(8, 134)] 1),
  (36, j_br (f_if (fun x => decide (x = 0))) 56 39),
  (39, j_ld 0 2 40),
  (40, j_ld 0 4 42),
  (42, j_st (f_psh (.int 1)) 43),
  (43, j_st (f_ii (fun a b => a + b)) 44),
  (44, j_st (f_ii (fun a b => a + b)) 45),
  (45, j_so 0 2 46),
  (46, j_ld 0 3 47),
  (47, j_ld 0 4 49),
  (49, j_st (f_psh (.int 1)) 50),
  (50, j_st (f_ii (fun a b => a + b)) 51),
  (51, j_st (f_ii (fun a b => a - b)) 52),
  (52, j_so 0 3 53),
  (53, j_st f_id 59),
  (56, j_ld 0 4 58),
  (58, j_so 0 3 59),
  (59, j_st f_id 7),
  (62, j_ld 0 2 63),
  (63, j_rt 0)]
def i_Ru_firstNotBefore : j_I := (R_Ru, b_Ru_firstNotBefore, 5, false, (some .int), [])
def e_Ru_firstNotBefore : j_E := ((y_Ru_firstNotBefore, c_Ru_firstNotBefore), i_Ru_firstNotBefore, j_tab q_Ru_firstNotBefore, [])
theorem o_Ru_firstNotBefore (G : j_G) : j_mok G tm e_Ru_firstNotBefore := ⟨by decide +kernel, Or.inl ⟨rfl, rfl⟩, rfl, (fun h => by cases h), j_tab_ok (i := i_Ru_firstNotBefore) (l := q_Ru_firstNotBefore) (j_all_mem ⟨r_iconst d_Ru_firstNotBefore_0 (by decide),
  r_istore_n d_Ru_firstNotBefore_1 rfl (by decide),
  r_aload_n d_Ru_firstNotBefore_2 rfl,
  r_invU (y0 := ⟨"LevelTables$Run", "count", "()I"⟩) (owner := "LevelTables$Run") (j_all_mem ⟨⟨⟨_, _, _, rfl, k_328, k_330, k_331, k_332⟩, cw_Lv_count, by decide, by decide +kernel⟩, ⟨⟨_, _, _, rfl, k_328, k_330, k_334, k_288⟩, cw_Me_count, by decide, by decide +kernel⟩, trivial⟩) (fun A U h hK => va_Decl.abs (hK.nw k_329)) d_Ru_firstNotBefore_3,
  r_istore_n d_Ru_firstNotBefore_6 rfl (by decide),
  r_iload_n d_Ru_firstNotBefore_7 rfl,
  r_if_le d_Ru_firstNotBefore_8 (by decide),
  r_iload_n d_Ru_firstNotBefore_11 rfl,
  r_iconst d_Ru_firstNotBefore_12 (by decide),
  r_ishr d_Ru_firstNotBefore_13,
  r_istore d_Ru_firstNotBefore_14 (by decide),
  r_aload_n d_Ru_firstNotBefore_16 rfl,
  r_iload_n d_Ru_firstNotBefore_17 rfl,
  r_iload d_Ru_firstNotBefore_18,
  r_iadd d_Ru_firstNotBefore_20,
  r_aload_n d_Ru_firstNotBefore_21 rfl,
  r_getfield (j_all_mem ⟨⟨_, _, _, rfl, w_Me, by decide, ⟨_, k_120, Or.inl rfl⟩⟩, ⟨_, _, _, rfl, w_Lv, by decide, ⟨_, k_120, Or.inl rfl⟩⟩, trivial⟩) d_Ru_firstNotBefore_22,
  r_invU (y0 := ⟨"LevelTables$Run", "load", "(ILLevelTables$Version;)V"⟩) (owner := "LevelTables$Run") (j_all_mem ⟨⟨⟨_, _, _, rfl, k_335, k_337, k_338, k_339⟩, cw_Lv_load, by decide, by decide +kernel⟩, ⟨⟨_, _, _, rfl, k_335, k_337, k_382, k_296⟩, cw_Me_load, by decide, by decide +kernel⟩, trivial⟩) (fun A U h hK => va_Decl.abs (hK.nw k_336)) d_Ru_firstNotBefore_25,
  r_aload_n d_Ru_firstNotBefore_28 rfl,
  r_getfield (j_all_mem ⟨⟨_, _, _, rfl, w_Me, by decide, ⟨_, k_120, Or.inl rfl⟩⟩, ⟨_, _, _, rfl, w_Lv, by decide, ⟨_, k_120, Or.inl rfl⟩⟩, trivial⟩) d_Ru_firstNotBefore_29,
  r_aload_n d_Ru_firstNotBefore_32 rfl,
  r_invV (j_all_mem ⟨⟨⟨_, _, _, rfl, k_383, k_384, k_385⟩, cw_Ve_isBefore, by decide, by decide +kernel⟩, trivial⟩) d_Ru_firstNotBefore_33,
  r_if_eq d_Ru_firstNotBefore_36 (by decide),
  r_iload_n d_Ru_firstNotBefore_39 rfl,
  r_iload d_Ru_firstNotBefore_40,
  r_iconst d_Ru_firstNotBefore_42 (by decide),
  r_iadd d_Ru_firstNotBefore_43,
  r_iadd d_Ru_firstNotBefore_44,
  r_istore_n d_Ru_firstNotBefore_45 rfl (by decide),
  r_iload_n d_Ru_firstNotBefore_46 rfl,
  r_iload d_Ru_firstNotBefore_47,
  r_iconst d_Ru_firstNotBefore_49 (by decide),
  r_iadd d_Ru_firstNotBefore_50,
  r_isub d_Ru_firstNotBefore_51,
  r_istore_n d_Ru_firstNotBefore_52 rfl (by decide),
  r_goto d_Ru_firstNotBefore_53 (by decide),
  r_iload d_Ru_firstNotBefore_56,
  r_istore_n d_Ru_firstNotBefore_58 rfl (by decide),
  r_goto d_Ru_firstNotBefore_59 (by decide),
  r_iload_n d_Ru_firstNotBefore_62 rfl,
  r_ireturn d_Ru_firstNotBefore_63 rfl, trivial⟩), (fun q h => by cases h), (fun _ => rfl)⟩
theorem d_Ru_init_0 : decode b_Ru_init 0 = .ok (.aload_n 0, 1) := by decide +kernel
theorem d_Ru_init_1 : decode b_Ru_init 1 = .ok (.invokespecial 1, 3) := by decide +kernel
theorem d_Ru_init_4 : decode b_Ru_init 4 = .ok (.aload_n 0, 1) := by decide +kernel
theorem d_Ru_init_5 : decode b_Ru_init 5 = .ok (.new 7, 3) := by decide +kernel
theorem d_Ru_init_8 : decode b_Ru_init 8 = .ok (.dup, 1) := by decide +kernel
theorem d_Ru_init_9 : decode b_Ru_init 9 = .ok (.invokespecial 9, 3) := by decide +kernel
theorem d_Ru_init_12 : decode b_Ru_init 12 = .ok (.putfield 10, 3) := by decide +kernel
theorem d_Ru_init_15 : decode b_Ru_init 15 = .ok (.return_, 1) := by decide +kernel
def q_Ru_init : List (Nat × j_S) := [(0, j_ld 2 0 1),
  (1, j_oi 4),
  (4, j_ld 2 0 5),
  (5, j_nw 8 1 [.null] 8),
  (8, j_st (f_dup) 9),
  (9, j_ci 133 0),
  (12, j_pf [4, 5] 0 2 15),
  (15, j_rv)]
def i_Ru_init : j_I := (R_Ru, b_Ru_init, 1, true, none, [])
def e_Ru_init : j_E := ((y_Ru_init, c_Ru_init), i_Ru_init, j_tab q_Ru_init, [])
theorem o_Ru_init (G : j_G) : j_mok G tm e_Ru_init := ⟨by decide +kernel, Or.inl ⟨rfl, rfl⟩, rfl, (fun _ => rfl), j_tab_ok (i := i_Ru_init) (l := q_Ru_init) (j_all_mem ⟨r_aload_n d_Ru_init_0 rfl,
  r_objInit k_106 k_oi k_oc d_Ru_init_1,
  r_aload_n d_Ru_init_4 rfl,
  r_new (ty := t_Ve) rfl w_Ve t_Ve_ok k_107 k_108 k_8 (fun j hj => by revert j; decide) (by intro v hv a; revert v; simp) d_Ru_init_5,
  r_dup d_Ru_init_8,
  r_invIN k_109 k_110 rfl rfl cw_Ve_init (by decide) (by decide +kernel) d_Ru_init_9,
  r_putfield (fin := true) (j_all_mem ⟨⟨_, _, _, t_Me, _, rfl, w_Me, t_Me_ok, n_Me, by decide, rfl, t_Me_ok 0 (by decide), Or.inr (Or.inr (Or.inl ⟨rfl, by first | exact Or.inl ⟨_, rfl⟩ | exact Or.inr ⟨_, rfl⟩⟩)), ⟨_, k_120, Or.inl rfl⟩, (fun _ => rfl)⟩, ⟨_, _, _, t_Lv, _, rfl, w_Lv, t_Lv_ok, n_Lv, by decide, rfl, t_Lv_ok 0 (by decide), Or.inr (Or.inr (Or.inl ⟨rfl, by first | exact Or.inl ⟨_, rfl⟩ | exact Or.inr ⟨_, rfl⟩⟩)), ⟨_, k_120, Or.inl rfl⟩, (fun _ => rfl)⟩, trivial⟩) (fun _ => rfl) d_Ru_init_12,
  r_return d_Ru_init_15 rfl, trivial⟩), (fun q h => by cases h), (fun _ => rfl)⟩
theorem d_Tb_blockOf_0 : decode b_Tb_blockOf 0 = .ok (.iload_n 1, 1) := by decide +kernel
theorem d_Tb_blockOf_1 : decode b_Tb_blockOf 1 = .ok (.bipush 8, 2) := by decide +kernel
theorem d_Tb_blockOf_3 : decode b_Tb_blockOf 3 = .ok (.idiv, 1) := by decide +kernel
theorem d_Tb_blockOf_4 : decode b_Tb_blockOf 4 = .ok (.istore_n 2, 1) := by decide +kernel
theorem d_Tb_blockOf_5 : decode b_Tb_blockOf 5 = .ok (.iload_n 1, 1) := by decide +kernel
theorem d_Tb_blockOf_6 : decode b_Tb_blockOf 6 = .ok (.ifCond .lt 21, 3) := by decide +kernel
theorem d_Tb_blockOf_9 : decode b_Tb_blockOf 9 = .ok (.iload_n 2, 1) := by decide +kernel
theorem d_Tb_blockOf_10 : decode b_Tb_blockOf 10 = .ok (.aload_n 0, 1) := by decide +kernel
theorem d_Tb_blockOf_11 : decode b_Tb_blockOf 11 = .ok (.getfield 9, 3) := by decide +kernel
theorem d_Tb_blockOf_14 : decode b_Tb_blockOf 14 = .ok (.arraylength, 1) := by decide +kernel
theorem d_Tb_blockOf_15 : decode b_Tb_blockOf 15 = .ok (.if_icmp .ge 12, 3) := by decide +kernel
theorem d_Tb_blockOf_18 : decode b_Tb_blockOf 18 = .ok (.aload_n 0, 1) := by decide +kernel
theorem d_Tb_blockOf_19 : decode b_Tb_blockOf 19 = .ok (.getfield 9, 3) := by decide +kernel
theorem d_Tb_blockOf_22 : decode b_Tb_blockOf 22 = .ok (.iload_n 2, 1) := by decide +kernel
theorem d_Tb_blockOf_23 : decode b_Tb_blockOf 23 = .ok (.iaload, 1) := by decide +kernel
theorem d_Tb_blockOf_24 : decode b_Tb_blockOf 24 = .ok (.goto 4, 3) := by decide +kernel
theorem d_Tb_blockOf_27 : decode b_Tb_blockOf 27 = .ok (.iconst (-1), 1) := by decide +kernel
theorem d_Tb_blockOf_28 : decode b_Tb_blockOf 28 = .ok (.ireturn, 1) := by decide +kernel
def q_Tb_blockOf : List (Nat × j_S) := [(0, j_ld 0 1 1),
  (1, j_st (f_psh (.int 8)) 3),
  (3, j_st (f_iin (fun a b => a / b)) 4),
  (4, j_so 0 2 5),
  (5, j_ld 0 1 6),
  (6, j_br (f_if (fun x => decide (x < 0))) 27 9),
  (9, j_ld 0 2 10),
  (10, j_ld 2 0 11),
  (11, j_gf [9] 1 14),
  (14, j_an 15),
  (15, j_br (f_ic (fun x y => decide (y ≤ x))) 27 18),
  (18, j_ld 2 0 19),
  (19, j_gf [9] 1 22),
  (22, j_ld 0 2 23),
  (23, j_al 0 24),
  (24, j_st f_id 28),
  (27, j_st (f_psh (.int (-1))) 28),
  (28, j_rt 0)]
def i_Tb_blockOf : j_I := (R_Tb, b_Tb_blockOf, 3, false, (some .int), [])
def e_Tb_blockOf : j_E := ((y_Tb_blockOf, c_Tb_blockOf), i_Tb_blockOf, j_tab q_Tb_blockOf, [])
theorem o_Tb_blockOf (G : j_G) : j_mok G tm e_Tb_blockOf := ⟨by decide +kernel, Or.inl ⟨rfl, rfl⟩, rfl, (fun h => by cases h), j_tab_ok (i := i_Tb_blockOf) (l := q_Tb_blockOf) (j_all_mem ⟨r_iload_n d_Tb_blockOf_0 rfl,
  r_bipush d_Tb_blockOf_1 (by decide),
  r_idiv d_Tb_blockOf_3,
  r_istore_n d_Tb_blockOf_4 rfl (by decide),
  r_iload_n d_Tb_blockOf_5 rfl,
  r_if_lt d_Tb_blockOf_6 (by decide),
  r_iload_n d_Tb_blockOf_9 rfl,
  r_aload_n d_Tb_blockOf_10 rfl,
  r_getfield (j_all_mem ⟨⟨_, _, _, rfl, w_Tb, by decide, ⟨_, k_505, Or.inl rfl⟩⟩, trivial⟩) d_Tb_blockOf_11,
  r_alen d_Tb_blockOf_14,
  r_ic_ge d_Tb_blockOf_15 (by decide),
  r_aload_n d_Tb_blockOf_18 rfl,
  r_getfield (j_all_mem ⟨⟨_, _, _, rfl, w_Tb, by decide, ⟨_, k_505, Or.inl rfl⟩⟩, trivial⟩) d_Tb_blockOf_19,
  r_iload_n d_Tb_blockOf_22 rfl,
  r_iaload d_Tb_blockOf_23,
  r_goto d_Tb_blockOf_24 (by decide),
  r_iconst d_Tb_blockOf_27 (by decide),
  r_ireturn d_Tb_blockOf_28 rfl, trivial⟩), (fun q h => by cases h), (fun _ => rfl)⟩
theorem d_Tb_count_0 : decode b_Tb_count 0 = .ok (.aload_n 0, 1) := by decide +kernel
theorem d_Tb_count_1 : decode b_Tb_count 1 = .ok (.getfield 15, 3) := by decide +kernel
theorem d_Tb_count_4 : decode b_Tb_count 4 = .ok (.ireturn, 1) := by decide +kernel
def q_Tb_count : List (Nat × j_S) := [(0, j_ld 2 0 1),
  (1, j_gf [9] 2 4),
  (4, j_rt 0)]
def i_Tb_count : j_I := (R_Tb, b_Tb_count, 1, false, (some .int), [])
def e_Tb_count : j_E := ((y_Tb_count, c_Tb_count), i_Tb_count, j_tab q_Tb_count, [])
theorem o_Tb_count (G : j_G) : j_mok G tm e_Tb_count := ⟨by decide +kernel, Or.inl ⟨rfl, rfl⟩, rfl, (fun h => by cases h), j_tab_ok (i := i_Tb_count) (l := q_Tb_count) (j_all_mem ⟨r_aload_n d_Tb_count_0 rfl,
  r_getfield (j_all_mem ⟨⟨_, _, _, rfl, w_Tb, by decide, ⟨_, k_506, Or.inl rfl⟩⟩, trivial⟩) d_Tb_count_1,
  r_ireturn d_Tb_count_4 rfl, trivial⟩), (fun q h => by cases h), (fun _ => rfl)⟩
theorem d_Tb_init_0 : decode b_Tb_init 0 = .ok (.aload_n 0, 1) := by decide +kernel
theorem d_Tb_init_1 : decode b_Tb_init 1 = .ok (.invokespecial 3, 3) := by decide +kernel
theorem d_Tb_init_4 : decode b_Tb_init 4 = .ok (.aload_n 0, 1) := by decide +kernel
theorem d_Tb_init_5 : decode b_Tb_init 5 = .ok (.aload_n 1, 1) := by decide +kernel
theorem d_Tb_init_6 : decode b_Tb_init 6 = .ok (.putfield 9, 3) := by decide +kernel
theorem d_Tb_init_9 : decode b_Tb_init 9 = .ok (.aload_n 0, 1) := by decide +kernel
theorem d_Tb_init_10 : decode b_Tb_init 10 = .ok (.iload_n 2, 1) := by decide +kernel
theorem d_Tb_init_11 : decode b_Tb_init 11 = .ok (.putfield 15, 3) := by decide +kernel
theorem d_Tb_init_14 : decode b_Tb_init 14 = .ok (.aload_n 0, 1) := by decide +kernel
theorem d_Tb_init_15 : decode b_Tb_init 15 = .ok (.lload_n 3, 1) := by decide +kernel
theorem d_Tb_init_16 : decode b_Tb_init 16 = .ok (.putfield 19, 3) := by decide +kernel
theorem d_Tb_init_19 : decode b_Tb_init 19 = .ok (.return_, 1) := by decide +kernel
def q_Tb_init : List (Nat × j_S) := [(0, j_ld 2 0 1),
  (1, j_oi 4),
  (4, j_ld 2 0 5),
  (5, j_ld 2 1 6),
  (6, j_pf [9] 1 2 9),
  (9, j_ld 2 0 10),
  (10, j_ld 0 2 11),
  (11, j_pf [9] 2 0 14),
  (14, j_ld 2 0 15),
  (15, j_ld 1 3 16),
  (16, j_pf [9] 3 1 19),
  (19, j_rv)]
def i_Tb_init : j_I := (R_Tb, b_Tb_init, 5, true, none, [])
def e_Tb_init : j_E := ((y_Tb_init, c_Tb_init), i_Tb_init, j_tab q_Tb_init, [])
theorem o_Tb_init (G : j_G) : j_mok G tm e_Tb_init := ⟨by decide +kernel, Or.inl ⟨rfl, rfl⟩, rfl, (fun _ => rfl), j_tab_ok (i := i_Tb_init) (l := q_Tb_init) (j_all_mem ⟨r_aload_n d_Tb_init_0 rfl,
  r_objInit k_504 k_oi k_oc d_Tb_init_1,
  r_aload_n d_Tb_init_4 rfl,
  r_aload_n d_Tb_init_5 rfl,
  r_putfield (fin := true) (j_all_mem ⟨⟨_, _, _, t_Tb, _, rfl, w_Tb, t_Tb_ok, n_Tb, by decide, rfl, t_Tb_ok 1 (by decide), Or.inr (Or.inr (Or.inl ⟨rfl, by first | exact Or.inl ⟨_, rfl⟩ | exact Or.inr ⟨_, rfl⟩⟩)), ⟨_, k_505, Or.inl rfl⟩, (fun _ => rfl)⟩, trivial⟩) (fun _ => rfl) d_Tb_init_6,
  r_aload_n d_Tb_init_9 rfl,
  r_iload_n d_Tb_init_10 rfl,
  r_putfield (fin := true) (j_all_mem ⟨⟨_, _, _, t_Tb, _, rfl, w_Tb, t_Tb_ok, n_Tb, by decide, rfl, t_Tb_ok 2 (by decide), Or.inl ⟨rfl, rfl⟩, ⟨_, k_506, Or.inl rfl⟩, (fun _ => rfl)⟩, trivial⟩) (fun _ => rfl) d_Tb_init_11,
  r_aload_n d_Tb_init_14 rfl,
  r_lload_n d_Tb_init_15 rfl,
  r_putfield (fin := true) (j_all_mem ⟨⟨_, _, _, t_Tb, _, rfl, w_Tb, t_Tb_ok, n_Tb, by decide, rfl, t_Tb_ok 3 (by decide), Or.inr (Or.inl ⟨rfl, rfl⟩), ⟨_, k_507, Or.inl rfl⟩, (fun _ => rfl)⟩, trivial⟩) (fun _ => rfl) d_Tb_init_16,
  r_return d_Tb_init_19 rfl, trivial⟩), (fun q h => by cases h), (fun _ => rfl)⟩
theorem d_Tb_release_0 : decode b_Tb_release 0 = .ok (.aload_n 0, 1) := by decide +kernel
theorem d_Tb_release_1 : decode b_Tb_release 1 = .ok (.getfield 9, 3) := by decide +kernel
theorem d_Tb_release_4 : decode b_Tb_release 4 = .ok (.astore_n 2, 1) := by decide +kernel
theorem d_Tb_release_5 : decode b_Tb_release 5 = .ok (.aload_n 2, 1) := by decide +kernel
theorem d_Tb_release_6 : decode b_Tb_release 6 = .ok (.arraylength, 1) := by decide +kernel
theorem d_Tb_release_7 : decode b_Tb_release 7 = .ok (.istore_n 3, 1) := by decide +kernel
theorem d_Tb_release_8 : decode b_Tb_release 8 = .ok (.iconst 0, 1) := by decide +kernel
theorem d_Tb_release_9 : decode b_Tb_release 9 = .ok (.istore 4, 2) := by decide +kernel
theorem d_Tb_release_11 : decode b_Tb_release 11 = .ok (.iload 4, 2) := by decide +kernel
theorem d_Tb_release_13 : decode b_Tb_release 13 = .ok (.iload_n 3, 1) := by decide +kernel
theorem d_Tb_release_14 : decode b_Tb_release 14 = .ok (.if_icmp .ge 21, 3) := by decide +kernel
theorem d_Tb_release_17 : decode b_Tb_release 17 = .ok (.aload_n 2, 1) := by decide +kernel
theorem d_Tb_release_18 : decode b_Tb_release 18 = .ok (.iload 4, 2) := by decide +kernel
theorem d_Tb_release_20 : decode b_Tb_release 20 = .ok (.iaload, 1) := by decide +kernel
theorem d_Tb_release_21 : decode b_Tb_release 21 = .ok (.istore 5, 2) := by decide +kernel
theorem d_Tb_release_23 : decode b_Tb_release 23 = .ok (.aload_n 1, 1) := by decide +kernel
theorem d_Tb_release_24 : decode b_Tb_release 24 = .ok (.iload 5, 2) := by decide +kernel
theorem d_Tb_release_26 : decode b_Tb_release 26 = .ok (.invokevirtual 26, 3) := by decide +kernel
theorem d_Tb_release_29 : decode b_Tb_release 29 = .ok (.iinc 4 1, 3) := by decide +kernel
theorem d_Tb_release_32 : decode b_Tb_release 32 = .ok (.goto (-21), 3) := by decide +kernel
theorem d_Tb_release_35 : decode b_Tb_release 35 = .ok (.return_, 1) := by decide +kernel
def q_Tb_release : List (Nat × j_S) := [(0, j_ld 2 0 1),
  (1, j_gf [9] 1 4),
  (4, j_so 2 2 5),
  (5, j_ld 2 2 6),
  (6, j_an 7),
  (7, j_so 0 3 8),
  (8, j_st (f_psh (.int 0)) 9),
  (9, j_so 0 4 11),
  (11, j_ld 0 4 13),
  (13, j_ld 0 3 14),
  (14, j_br (f_ic (fun x y => decide (y ≤ x))) 35 17),
  (17, j_ld 2 2 18),
  (18, j_ld 0 4 20),
  (20, j_al 0 21),
  (21, j_so 0 5 23),
  (23, j_ld 2 1 24),
  (24, j_ld 0 5 26),
  (26, j_cv [(3, 29)] 1),
  (29, j_ic 4 1 32),
  (32, j_st f_id 11),
  (35, j_rv)]
def i_Tb_release : j_I := (R_Tb, b_Tb_release, 6, false, none, [])
def e_Tb_release : j_E := ((y_Tb_release, c_Tb_release), i_Tb_release, j_tab q_Tb_release, [])
theorem o_Tb_release (G : j_G) : j_mok G tm e_Tb_release := ⟨by decide +kernel, Or.inl ⟨rfl, rfl⟩, rfl, (fun h => by cases h), j_tab_ok (i := i_Tb_release) (l := q_Tb_release) (j_all_mem ⟨r_aload_n d_Tb_release_0 rfl,
  r_getfield (j_all_mem ⟨⟨_, _, _, rfl, w_Tb, by decide, ⟨_, k_505, Or.inl rfl⟩⟩, trivial⟩) d_Tb_release_1,
  r_astore_n d_Tb_release_4 rfl (by decide),
  r_aload_n d_Tb_release_5 rfl,
  r_alen d_Tb_release_6,
  r_istore_n d_Tb_release_7 rfl (by decide),
  r_iconst d_Tb_release_8 (by decide),
  r_istore d_Tb_release_9 (by decide),
  r_iload d_Tb_release_11,
  r_iload_n d_Tb_release_13 rfl,
  r_ic_ge d_Tb_release_14 (by decide),
  r_aload_n d_Tb_release_17 rfl,
  r_iload d_Tb_release_18,
  r_iaload d_Tb_release_20,
  r_istore d_Tb_release_21 (by decide),
  r_aload_n d_Tb_release_23 rfl,
  r_iload d_Tb_release_24,
  r_invV (j_all_mem ⟨⟨⟨_, _, _, rfl, k_608, k_609, k_610⟩, cw_Ch_release, by decide, by decide +kernel⟩, trivial⟩) d_Tb_release_26,
  j_ok_ic d_Tb_release_29 rfl (by decide) (by decide),
  r_goto d_Tb_release_32 (by decide),
  r_return d_Tb_release_35 rfl, trivial⟩), (fun q h => by cases h), (fun _ => rfl)⟩
theorem d_Tb_setStart_0 : decode b_Tb_setStart 0 = .ok (.aload_n 0, 1) := by decide +kernel
theorem d_Tb_setStart_1 : decode b_Tb_setStart 1 = .ok (.iload_n 1, 1) := by decide +kernel
theorem d_Tb_setStart_2 : decode b_Tb_setStart 2 = .ok (.putfield 23, 3) := by decide +kernel
theorem d_Tb_setStart_5 : decode b_Tb_setStart 5 = .ok (.return_, 1) := by decide +kernel
def q_Tb_setStart : List (Nat × j_S) := [(0, j_ld 2 0 1),
  (1, j_ld 0 1 2),
  (2, j_pf [9] 0 0 5),
  (5, j_rv)]
def i_Tb_setStart : j_I := (R_Tb, b_Tb_setStart, 2, false, none, [])
def e_Tb_setStart : j_E := ((y_Tb_setStart, c_Tb_setStart), i_Tb_setStart, j_tab q_Tb_setStart, [])
theorem o_Tb_setStart (G : j_G) : j_mok G tm e_Tb_setStart := ⟨by decide +kernel, Or.inl ⟨rfl, rfl⟩, rfl, (fun h => by cases h), j_tab_ok (i := i_Tb_setStart) (l := q_Tb_setStart) (j_all_mem ⟨r_aload_n d_Tb_setStart_0 rfl,
  r_iload_n d_Tb_setStart_1 rfl,
  r_putfield (fin := false) (j_all_mem ⟨⟨_, _, _, t_Tb, _, rfl, w_Tb, t_Tb_ok, n_Tb, by decide, rfl, t_Tb_ok 0 (by decide), Or.inl ⟨rfl, rfl⟩, ⟨_, k_508, Or.inl rfl⟩, (fun h => by cases h)⟩, trivial⟩) (fun h => by cases h) d_Tb_setStart_2,
  r_return d_Tb_setStart_5 rfl, trivial⟩), (fun q h => by cases h), (fun _ => rfl)⟩
theorem d_Tb_start_0 : decode b_Tb_start 0 = .ok (.aload_n 0, 1) := by decide +kernel
theorem d_Tb_start_1 : decode b_Tb_start 1 = .ok (.getfield 23, 3) := by decide +kernel
theorem d_Tb_start_4 : decode b_Tb_start 4 = .ok (.ireturn, 1) := by decide +kernel
def q_Tb_start : List (Nat × j_S) := [(0, j_ld 2 0 1),
  (1, j_gf [9] 0 4),
  (4, j_rt 0)]
def i_Tb_start : j_I := (R_Tb, b_Tb_start, 1, false, (some .int), [])
def e_Tb_start : j_E := ((y_Tb_start, c_Tb_start), i_Tb_start, j_tab q_Tb_start, [])
theorem o_Tb_start (G : j_G) : j_mok G tm e_Tb_start := ⟨by decide +kernel, Or.inl ⟨rfl, rfl⟩, rfl, (fun h => by cases h), j_tab_ok (i := i_Tb_start) (l := q_Tb_start) (j_all_mem ⟨r_aload_n d_Tb_start_0 rfl,
  r_getfield (j_all_mem ⟨⟨_, _, _, rfl, w_Tb, by decide, ⟨_, k_508, Or.inl rfl⟩⟩, trivial⟩) d_Tb_start_1,
  r_ireturn d_Tb_start_4 rfl, trivial⟩), (fun q h => by cases h), (fun _ => rfl)⟩
theorem d_Tb_sum_0 : decode b_Tb_sum 0 = .ok (.aload_n 0, 1) := by decide +kernel
theorem d_Tb_sum_1 : decode b_Tb_sum 1 = .ok (.getfield 19, 3) := by decide +kernel
theorem d_Tb_sum_4 : decode b_Tb_sum 4 = .ok (.lreturn, 1) := by decide +kernel
def q_Tb_sum : List (Nat × j_S) := [(0, j_ld 2 0 1),
  (1, j_gf [9] 3 4),
  (4, j_rt 1)]
def i_Tb_sum : j_I := (R_Tb, b_Tb_sum, 1, false, (some .long), [])
def e_Tb_sum : j_E := ((y_Tb_sum, c_Tb_sum), i_Tb_sum, j_tab q_Tb_sum, [])
theorem o_Tb_sum (G : j_G) : j_mok G tm e_Tb_sum := ⟨by decide +kernel, Or.inl ⟨rfl, rfl⟩, rfl, (fun h => by cases h), j_tab_ok (i := i_Tb_sum) (l := q_Tb_sum) (j_all_mem ⟨r_aload_n d_Tb_sum_0 rfl,
  r_getfield (j_all_mem ⟨⟨_, _, _, rfl, w_Tb, by decide, ⟨_, k_507, Or.inl rfl⟩⟩, trivial⟩) d_Tb_sum_1,
  r_lreturn d_Tb_sum_4 rfl, trivial⟩), (fun q h => by cases h), (fun _ => rfl)⟩
theorem d_Tb_usesItsBlocks_0 : decode b_Tb_usesItsBlocks 0 = .ok (.aload_n 0, 1) := by decide +kernel
theorem d_Tb_usesItsBlocks_1 : decode b_Tb_usesItsBlocks 1 = .ok (.getfield 15, 3) := by decide +kernel
theorem d_Tb_usesItsBlocks_4 : decode b_Tb_usesItsBlocks 4 = .ok (.iconst 1, 1) := by decide +kernel
theorem d_Tb_usesItsBlocks_5 : decode b_Tb_usesItsBlocks 5 = .ok (.if_icmp .lt 23, 3) := by decide +kernel
theorem d_Tb_usesItsBlocks_8 : decode b_Tb_usesItsBlocks 8 = .ok (.aload_n 0, 1) := by decide +kernel
theorem d_Tb_usesItsBlocks_9 : decode b_Tb_usesItsBlocks 9 = .ok (.getfield 9, 3) := by decide +kernel
theorem d_Tb_usesItsBlocks_12 : decode b_Tb_usesItsBlocks 12 = .ok (.arraylength, 1) := by decide +kernel
theorem d_Tb_usesItsBlocks_13 : decode b_Tb_usesItsBlocks 13 = .ok (.aload_n 0, 1) := by decide +kernel
theorem d_Tb_usesItsBlocks_14 : decode b_Tb_usesItsBlocks 14 = .ok (.getfield 15, 3) := by decide +kernel
theorem d_Tb_usesItsBlocks_17 : decode b_Tb_usesItsBlocks 17 = .ok (.bipush 8, 2) := by decide +kernel
theorem d_Tb_usesItsBlocks_19 : decode b_Tb_usesItsBlocks 19 = .ok (.iadd, 1) := by decide +kernel
theorem d_Tb_usesItsBlocks_20 : decode b_Tb_usesItsBlocks 20 = .ok (.iconst 1, 1) := by decide +kernel
theorem d_Tb_usesItsBlocks_21 : decode b_Tb_usesItsBlocks 21 = .ok (.isub, 1) := by decide +kernel
theorem d_Tb_usesItsBlocks_22 : decode b_Tb_usesItsBlocks 22 = .ok (.bipush 8, 2) := by decide +kernel
theorem d_Tb_usesItsBlocks_24 : decode b_Tb_usesItsBlocks 24 = .ok (.idiv, 1) := by decide +kernel
theorem d_Tb_usesItsBlocks_25 : decode b_Tb_usesItsBlocks 25 = .ok (.if_icmp .eq 5, 3) := by decide +kernel
theorem d_Tb_usesItsBlocks_28 : decode b_Tb_usesItsBlocks 28 = .ok (.iconst 0, 1) := by decide +kernel
theorem d_Tb_usesItsBlocks_29 : decode b_Tb_usesItsBlocks 29 = .ok (.ireturn, 1) := by decide +kernel
theorem d_Tb_usesItsBlocks_30 : decode b_Tb_usesItsBlocks 30 = .ok (.aload_n 0, 1) := by decide +kernel
theorem d_Tb_usesItsBlocks_31 : decode b_Tb_usesItsBlocks 31 = .ok (.getfield 9, 3) := by decide +kernel
theorem d_Tb_usesItsBlocks_34 : decode b_Tb_usesItsBlocks 34 = .ok (.astore_n 2, 1) := by decide +kernel
theorem d_Tb_usesItsBlocks_35 : decode b_Tb_usesItsBlocks 35 = .ok (.aload_n 2, 1) := by decide +kernel
theorem d_Tb_usesItsBlocks_36 : decode b_Tb_usesItsBlocks 36 = .ok (.arraylength, 1) := by decide +kernel
theorem d_Tb_usesItsBlocks_37 : decode b_Tb_usesItsBlocks 37 = .ok (.istore_n 3, 1) := by decide +kernel
theorem d_Tb_usesItsBlocks_38 : decode b_Tb_usesItsBlocks 38 = .ok (.iconst 0, 1) := by decide +kernel
theorem d_Tb_usesItsBlocks_39 : decode b_Tb_usesItsBlocks 39 = .ok (.istore 4, 2) := by decide +kernel
theorem d_Tb_usesItsBlocks_41 : decode b_Tb_usesItsBlocks 41 = .ok (.iload 4, 2) := by decide +kernel
theorem d_Tb_usesItsBlocks_43 : decode b_Tb_usesItsBlocks 43 = .ok (.iload_n 3, 1) := by decide +kernel
theorem d_Tb_usesItsBlocks_44 : decode b_Tb_usesItsBlocks 44 = .ok (.if_icmp .ge 26, 3) := by decide +kernel
theorem d_Tb_usesItsBlocks_47 : decode b_Tb_usesItsBlocks 47 = .ok (.aload_n 2, 1) := by decide +kernel
theorem d_Tb_usesItsBlocks_48 : decode b_Tb_usesItsBlocks 48 = .ok (.iload 4, 2) := by decide +kernel
theorem d_Tb_usesItsBlocks_50 : decode b_Tb_usesItsBlocks 50 = .ok (.iaload, 1) := by decide +kernel
theorem d_Tb_usesItsBlocks_51 : decode b_Tb_usesItsBlocks 51 = .ok (.istore 5, 2) := by decide +kernel
theorem d_Tb_usesItsBlocks_53 : decode b_Tb_usesItsBlocks 53 = .ok (.aload_n 1, 1) := by decide +kernel
theorem d_Tb_usesItsBlocks_54 : decode b_Tb_usesItsBlocks 54 = .ok (.iload 5, 2) := by decide +kernel
theorem d_Tb_usesItsBlocks_56 : decode b_Tb_usesItsBlocks 56 = .ok (.invokevirtual 32, 3) := by decide +kernel
theorem d_Tb_usesItsBlocks_59 : decode b_Tb_usesItsBlocks 59 = .ok (.ifCond .ne 5, 3) := by decide +kernel
theorem d_Tb_usesItsBlocks_62 : decode b_Tb_usesItsBlocks 62 = .ok (.iconst 0, 1) := by decide +kernel
theorem d_Tb_usesItsBlocks_63 : decode b_Tb_usesItsBlocks 63 = .ok (.ireturn, 1) := by decide +kernel
theorem d_Tb_usesItsBlocks_64 : decode b_Tb_usesItsBlocks 64 = .ok (.iinc 4 1, 3) := by decide +kernel
theorem d_Tb_usesItsBlocks_67 : decode b_Tb_usesItsBlocks 67 = .ok (.goto (-26), 3) := by decide +kernel
theorem d_Tb_usesItsBlocks_70 : decode b_Tb_usesItsBlocks 70 = .ok (.iconst 1, 1) := by decide +kernel
theorem d_Tb_usesItsBlocks_71 : decode b_Tb_usesItsBlocks 71 = .ok (.ireturn, 1) := by decide +kernel
def q_Tb_usesItsBlocks : List (Nat × j_S) := [(0, j_ld 2 0 1),
  (1, j_gf [9] 2 4),
  (4, j_st (f_psh (.int 1)) 5),
  (5, j_br (f_ic (fun x y => decide (x < y))) 28 8),
  (8, j_ld 2 0 9),
  (9, j_gf [9] 1 12),
  (12, j_an 13),
  (13, j_ld 2 0 14),
  (14, j_gf [9] 2 17),
  (17, j_st (f_psh (.int 8)) 19),
  (19, j_st (f_ii (fun a b => a + b)) 20),
  (20, j_st (f_psh (.int 1)) 21),
  (21, j_st (f_ii (fun a b => a - b)) 22),
  (22, j_st (f_psh (.int 8)) 24),
  (24, j_st (f_iin (fun a b => a / b)) 25),
  (25, j_br (f_ic (fun x y => decide (x = y))) 30 28),
  (28, j_st (f_psh (.int 0)) 29),
  (29, j_rt 3),
  (30, j_ld 2 0 31),
  (31, j_gf [9] 1 34),
  (34, j_so 2 2 35),
  (35, j_ld 2 2 36),
  (36, j_an 37),
  (37, j_so 0 3 38),
  (38, j_st (f_psh (.int 0)) 39),
  (39, j_so 0 4 41),
  (41, j_ld 0 4 43),
  (43, j_ld 0 3 44),
  (44, j_br (f_ic (fun x y => decide (y ≤ x))) 70 47),
  (47, j_ld 2 2 48),
  (48, j_ld 0 4 50),
  (50, j_al 0 51),
  (51, j_so 0 5 53),
  (53, j_ld 2 1 54),
  (54, j_ld 0 5 56),
  (56, j_cv [(3, 31)] 1),
  (59, j_br (f_if (fun x => decide (¬ x = 0))) 64 62),
  (62, j_st (f_psh (.int 0)) 63),
  (63, j_rt 3),
  (64, j_ic 4 1 67),
  (67, j_st f_id 41),
  (70, j_st (f_psh (.int 1)) 71),
  (71, j_rt 3)]
def i_Tb_usesItsBlocks : j_I := (R_Tb, b_Tb_usesItsBlocks, 6, false, (some .boolean), [])
def e_Tb_usesItsBlocks : j_E := ((y_Tb_usesItsBlocks, c_Tb_usesItsBlocks), i_Tb_usesItsBlocks, j_tab q_Tb_usesItsBlocks, [])
theorem o_Tb_usesItsBlocks (G : j_G) : j_mok G tm e_Tb_usesItsBlocks := ⟨by decide +kernel, Or.inl ⟨rfl, rfl⟩, rfl, (fun h => by cases h), j_tab_ok (i := i_Tb_usesItsBlocks) (l := q_Tb_usesItsBlocks) (j_all_mem ⟨r_aload_n d_Tb_usesItsBlocks_0 rfl,
  r_getfield (j_all_mem ⟨⟨_, _, _, rfl, w_Tb, by decide, ⟨_, k_506, Or.inl rfl⟩⟩, trivial⟩) d_Tb_usesItsBlocks_1,
  r_iconst d_Tb_usesItsBlocks_4 (by decide),
  r_ic_lt d_Tb_usesItsBlocks_5 (by decide),
  r_aload_n d_Tb_usesItsBlocks_8 rfl,
  r_getfield (j_all_mem ⟨⟨_, _, _, rfl, w_Tb, by decide, ⟨_, k_505, Or.inl rfl⟩⟩, trivial⟩) d_Tb_usesItsBlocks_9,
  r_alen d_Tb_usesItsBlocks_12,
  r_aload_n d_Tb_usesItsBlocks_13 rfl,
  r_getfield (j_all_mem ⟨⟨_, _, _, rfl, w_Tb, by decide, ⟨_, k_506, Or.inl rfl⟩⟩, trivial⟩) d_Tb_usesItsBlocks_14,
  r_bipush d_Tb_usesItsBlocks_17 (by decide),
  r_iadd d_Tb_usesItsBlocks_19,
  r_iconst d_Tb_usesItsBlocks_20 (by decide),
  r_isub d_Tb_usesItsBlocks_21,
  r_bipush d_Tb_usesItsBlocks_22 (by decide),
  r_idiv d_Tb_usesItsBlocks_24,
  r_ic_eq d_Tb_usesItsBlocks_25 (by decide),
  r_iconst d_Tb_usesItsBlocks_28 (by decide),
  r_zreturn d_Tb_usesItsBlocks_29 rfl,
  r_aload_n d_Tb_usesItsBlocks_30 rfl,
  r_getfield (j_all_mem ⟨⟨_, _, _, rfl, w_Tb, by decide, ⟨_, k_505, Or.inl rfl⟩⟩, trivial⟩) d_Tb_usesItsBlocks_31,
  r_astore_n d_Tb_usesItsBlocks_34 rfl (by decide),
  r_aload_n d_Tb_usesItsBlocks_35 rfl,
  r_alen d_Tb_usesItsBlocks_36,
  r_istore_n d_Tb_usesItsBlocks_37 rfl (by decide),
  r_iconst d_Tb_usesItsBlocks_38 (by decide),
  r_istore d_Tb_usesItsBlocks_39 (by decide),
  r_iload d_Tb_usesItsBlocks_41,
  r_iload_n d_Tb_usesItsBlocks_43 rfl,
  r_ic_ge d_Tb_usesItsBlocks_44 (by decide),
  r_aload_n d_Tb_usesItsBlocks_47 rfl,
  r_iload d_Tb_usesItsBlocks_48,
  r_iaload d_Tb_usesItsBlocks_50,
  r_istore d_Tb_usesItsBlocks_51 (by decide),
  r_aload_n d_Tb_usesItsBlocks_53 rfl,
  r_iload d_Tb_usesItsBlocks_54,
  r_invV (j_all_mem ⟨⟨⟨_, _, _, rfl, k_1007, k_1008, k_1009⟩, cw_Ch_use, by decide, by decide +kernel⟩, trivial⟩) d_Tb_usesItsBlocks_56,
  r_if_ne d_Tb_usesItsBlocks_59 (by decide),
  r_iconst d_Tb_usesItsBlocks_62 (by decide),
  r_zreturn d_Tb_usesItsBlocks_63 rfl,
  j_ok_ic d_Tb_usesItsBlocks_64 rfl (by decide) (by decide),
  r_goto d_Tb_usesItsBlocks_67 (by decide),
  r_iconst d_Tb_usesItsBlocks_70 (by decide),
  r_zreturn d_Tb_usesItsBlocks_71 rfl, trivial⟩), (fun q h => by cases h), (fun _ => rfl)⟩
theorem d_Tp_append_0 : decode b_Tp_append 0 = .ok (.bipush 24, 2) := by decide +kernel
theorem d_Tp_append_2 : decode b_Tp_append 2 = .ok (.istore_n 2, 1) := by decide +kernel
theorem d_Tp_append_3 : decode b_Tp_append 3 = .ok (.iload_n 2, 1) := by decide +kernel
theorem d_Tp_append_4 : decode b_Tp_append 4 = .ok (.ifCond .lt 41, 3) := by decide +kernel
theorem d_Tp_append_7 : decode b_Tp_append 7 = .ok (.aload_n 0, 1) := by decide +kernel
theorem d_Tp_append_8 : decode b_Tp_append 8 = .ok (.getfield 15, 3) := by decide +kernel
theorem d_Tp_append_11 : decode b_Tp_append 11 = .ok (.bipush 60, 2) := by decide +kernel
theorem d_Tp_append_13 : decode b_Tp_append 13 = .ok (.if_icmp .ge 32, 3) := by decide +kernel
theorem d_Tp_append_16 : decode b_Tp_append 16 = .ok (.aload_n 0, 1) := by decide +kernel
theorem d_Tp_append_17 : decode b_Tp_append 17 = .ok (.getfield 9, 3) := by decide +kernel
theorem d_Tp_append_20 : decode b_Tp_append 20 = .ok (.aload_n 0, 1) := by decide +kernel
theorem d_Tp_append_21 : decode b_Tp_append 21 = .ok (.getfield 15, 3) := by decide +kernel
theorem d_Tp_append_24 : decode b_Tp_append 24 = .ok (.iload_n 1, 1) := by decide +kernel
theorem d_Tp_append_25 : decode b_Tp_append 25 = .ok (.iload_n 2, 1) := by decide +kernel
theorem d_Tp_append_26 : decode b_Tp_append 26 = .ok (.iushr, 1) := by decide +kernel
theorem d_Tp_append_27 : decode b_Tp_append 27 = .ok (.i2b, 1) := by decide +kernel
theorem d_Tp_append_28 : decode b_Tp_append 28 = .ok (.bastore, 1) := by decide +kernel
theorem d_Tp_append_29 : decode b_Tp_append 29 = .ok (.aload_n 0, 1) := by decide +kernel
theorem d_Tp_append_30 : decode b_Tp_append 30 = .ok (.dup, 1) := by decide +kernel
theorem d_Tp_append_31 : decode b_Tp_append 31 = .ok (.getfield 15, 3) := by decide +kernel
theorem d_Tp_append_34 : decode b_Tp_append 34 = .ok (.iconst 1, 1) := by decide +kernel
theorem d_Tp_append_35 : decode b_Tp_append 35 = .ok (.iadd, 1) := by decide +kernel
theorem d_Tp_append_36 : decode b_Tp_append 36 = .ok (.putfield 15, 3) := by decide +kernel
theorem d_Tp_append_39 : decode b_Tp_append 39 = .ok (.iinc 2 (-8), 3) := by decide +kernel
theorem d_Tp_append_42 : decode b_Tp_append 42 = .ok (.goto (-39), 3) := by decide +kernel
theorem d_Tp_append_45 : decode b_Tp_append 45 = .ok (.return_, 1) := by decide +kernel
def q_Tp_append : List (Nat × j_S) := [(0, j_st (f_psh (.int 24)) 2),
  (2, j_so 0 2 3),
  (3, j_ld 0 2 4),
  (4, j_br (f_if (fun x => decide (x < 0))) 45 7),
  (7, j_ld 2 0 8),
  (8, j_gf [1] 0 11),
  (11, j_st (f_psh (.int 60)) 13),
  (13, j_br (f_ic (fun x y => decide (y ≤ x))) 45 16),
  (16, j_ld 2 0 17),
  (17, j_gf [1] 1 20),
  (20, j_ld 2 0 21),
  (21, j_gf [1] 0 24),
  (24, j_ld 0 1 25),
  (25, j_ld 0 2 26),
  (26, j_st (f_ii (fun a b => (a.toUInt32 >>> (b.toUInt32 &&& Int32.toUInt32 31)).toInt32)) 27),
  (27, j_st (f_i (fun a => a.toInt8.toInt32)) 28),
  (28, j_abz 29),
  (29, j_ld 2 0 30),
  (30, j_st (f_dup) 31),
  (31, j_gf [1] 0 34),
  (34, j_st (f_psh (.int 1)) 35),
  (35, j_st (f_ii (fun a b => a + b)) 36),
  (36, j_pf [1] 0 0 39),
  (39, j_ic 2 (-8) 42),
  (42, j_st f_id 3),
  (45, j_rv)]
def i_Tp_append : j_I := (R_Tp, b_Tp_append, 3, false, none, [])
def e_Tp_append : j_E := ((y_Tp_append, c_Tp_append), i_Tp_append, j_tab q_Tp_append, [])
theorem o_Tp_append (G : j_G) : j_mok G tm e_Tp_append := ⟨by decide +kernel, Or.inl ⟨rfl, rfl⟩, rfl, (fun h => by cases h), j_tab_ok (i := i_Tp_append) (l := q_Tp_append) (j_all_mem ⟨r_bipush d_Tp_append_0 (by decide),
  r_istore_n d_Tp_append_2 rfl (by decide),
  r_iload_n d_Tp_append_3 rfl,
  r_if_lt d_Tp_append_4 (by decide),
  r_aload_n d_Tp_append_7 rfl,
  r_getfield (j_all_mem ⟨⟨_, _, _, rfl, w_Tp, by decide, ⟨_, k_50, Or.inl rfl⟩⟩, trivial⟩) d_Tp_append_8,
  r_bipush d_Tp_append_11 (by decide),
  r_ic_ge d_Tp_append_13 (by decide),
  r_aload_n d_Tp_append_16 rfl,
  r_getfield (j_all_mem ⟨⟨_, _, _, rfl, w_Tp, by decide, ⟨_, k_49, Or.inl rfl⟩⟩, trivial⟩) d_Tp_append_17,
  r_aload_n d_Tp_append_20 rfl,
  r_getfield (j_all_mem ⟨⟨_, _, _, rfl, w_Tp, by decide, ⟨_, k_50, Or.inl rfl⟩⟩, trivial⟩) d_Tp_append_21,
  r_iload_n d_Tp_append_24 rfl,
  r_iload_n d_Tp_append_25 rfl,
  r_iushr d_Tp_append_26,
  r_i2b d_Tp_append_27,
  r_bastore2 d_Tp_append_28,
  r_aload_n d_Tp_append_29 rfl,
  r_dup d_Tp_append_30,
  r_getfield (j_all_mem ⟨⟨_, _, _, rfl, w_Tp, by decide, ⟨_, k_50, Or.inl rfl⟩⟩, trivial⟩) d_Tp_append_31,
  r_iconst d_Tp_append_34 (by decide),
  r_iadd d_Tp_append_35,
  r_putfield (fin := false) (j_all_mem ⟨⟨_, _, _, t_Tp, _, rfl, w_Tp, t_Tp_ok, n_Tp, by decide, rfl, t_Tp_ok 0 (by decide), Or.inl ⟨rfl, rfl⟩, ⟨_, k_50, Or.inl rfl⟩, (fun h => by cases h)⟩, trivial⟩) (fun h => by cases h) d_Tp_append_36,
  j_ok_ic d_Tp_append_39 rfl (by decide) (by decide),
  r_goto d_Tp_append_42 (by decide),
  r_return d_Tp_append_45 rfl, trivial⟩), (fun q h => by cases h), (fun _ => rfl)⟩
theorem d_Tp_cut_0 : decode b_Tp_cut 0 = .ok (.aload_n 0, 1) := by decide +kernel
theorem d_Tp_cut_1 : decode b_Tp_cut 1 = .ok (.iload_n 1, 1) := by decide +kernel
theorem d_Tp_cut_2 : decode b_Tp_cut 2 = .ok (.putfield 15, 3) := by decide +kernel
theorem d_Tp_cut_5 : decode b_Tp_cut 5 = .ok (.return_, 1) := by decide +kernel
def q_Tp_cut : List (Nat × j_S) := [(0, j_ld 2 0 1),
  (1, j_ld 0 1 2),
  (2, j_pf [1] 0 0 5),
  (5, j_rv)]
def i_Tp_cut : j_I := (R_Tp, b_Tp_cut, 2, false, none, [])
def e_Tp_cut : j_E := ((y_Tp_cut, c_Tp_cut), i_Tp_cut, j_tab q_Tp_cut, [])
theorem o_Tp_cut (G : j_G) : j_mok G tm e_Tp_cut := ⟨by decide +kernel, Or.inl ⟨rfl, rfl⟩, rfl, (fun h => by cases h), j_tab_ok (i := i_Tp_cut) (l := q_Tp_cut) (j_all_mem ⟨r_aload_n d_Tp_cut_0 rfl,
  r_iload_n d_Tp_cut_1 rfl,
  r_putfield (fin := false) (j_all_mem ⟨⟨_, _, _, t_Tp, _, rfl, w_Tp, t_Tp_ok, n_Tp, by decide, rfl, t_Tp_ok 0 (by decide), Or.inl ⟨rfl, rfl⟩, ⟨_, k_50, Or.inl rfl⟩, (fun h => by cases h)⟩, trivial⟩) (fun h => by cases h) d_Tp_cut_2,
  r_return d_Tp_cut_5 rfl, trivial⟩), (fun q h => by cases h), (fun _ => rfl)⟩
theorem d_Tp_hasKey_0 : decode b_Tp_hasKey 0 = .ok (.aload_n 0, 1) := by decide +kernel
theorem d_Tp_hasKey_1 : decode b_Tp_hasKey 1 = .ok (.getfield 15, 3) := by decide +kernel
theorem d_Tp_hasKey_4 : decode b_Tp_hasKey 4 = .ok (.iconst 1, 1) := by decide +kernel
theorem d_Tp_hasKey_5 : decode b_Tp_hasKey 5 = .ok (.if_icmp .lt 16, 3) := by decide +kernel
theorem d_Tp_hasKey_8 : decode b_Tp_hasKey 8 = .ok (.aload_n 0, 1) := by decide +kernel
theorem d_Tp_hasKey_9 : decode b_Tp_hasKey 9 = .ok (.getfield 15, 3) := by decide +kernel
theorem d_Tp_hasKey_12 : decode b_Tp_hasKey 12 = .ok (.bipush 40, 2) := by decide +kernel
theorem d_Tp_hasKey_14 : decode b_Tp_hasKey 14 = .ok (.if_icmp .gt 7, 3) := by decide +kernel
theorem d_Tp_hasKey_17 : decode b_Tp_hasKey 17 = .ok (.iconst 1, 1) := by decide +kernel
theorem d_Tp_hasKey_18 : decode b_Tp_hasKey 18 = .ok (.goto 4, 3) := by decide +kernel
theorem d_Tp_hasKey_21 : decode b_Tp_hasKey 21 = .ok (.iconst 0, 1) := by decide +kernel
theorem d_Tp_hasKey_22 : decode b_Tp_hasKey 22 = .ok (.ireturn, 1) := by decide +kernel
def q_Tp_hasKey : List (Nat × j_S) := [(0, j_ld 2 0 1),
  (1, j_gf [1] 0 4),
  (4, j_st (f_psh (.int 1)) 5),
  (5, j_br (f_ic (fun x y => decide (x < y))) 21 8),
  (8, j_ld 2 0 9),
  (9, j_gf [1] 0 12),
  (12, j_st (f_psh (.int 40)) 14),
  (14, j_br (f_ic (fun x y => decide (y < x))) 21 17),
  (17, j_st (f_psh (.int 1)) 18),
  (18, j_st f_id 22),
  (21, j_st (f_psh (.int 0)) 22),
  (22, j_rt 3)]
def i_Tp_hasKey : j_I := (R_Tp, b_Tp_hasKey, 1, false, (some .boolean), [])
def e_Tp_hasKey : j_E := ((y_Tp_hasKey, c_Tp_hasKey), i_Tp_hasKey, j_tab q_Tp_hasKey, [])
theorem o_Tp_hasKey (G : j_G) : j_mok G tm e_Tp_hasKey := ⟨by decide +kernel, Or.inl ⟨rfl, rfl⟩, rfl, (fun h => by cases h), j_tab_ok (i := i_Tp_hasKey) (l := q_Tp_hasKey) (j_all_mem ⟨r_aload_n d_Tp_hasKey_0 rfl,
  r_getfield (j_all_mem ⟨⟨_, _, _, rfl, w_Tp, by decide, ⟨_, k_50, Or.inl rfl⟩⟩, trivial⟩) d_Tp_hasKey_1,
  r_iconst d_Tp_hasKey_4 (by decide),
  r_ic_lt d_Tp_hasKey_5 (by decide),
  r_aload_n d_Tp_hasKey_8 rfl,
  r_getfield (j_all_mem ⟨⟨_, _, _, rfl, w_Tp, by decide, ⟨_, k_50, Or.inl rfl⟩⟩, trivial⟩) d_Tp_hasKey_9,
  r_bipush d_Tp_hasKey_12 (by decide),
  r_ic_gt d_Tp_hasKey_14 (by decide),
  r_iconst d_Tp_hasKey_17 (by decide),
  r_goto d_Tp_hasKey_18 (by decide),
  r_iconst d_Tp_hasKey_21 (by decide),
  r_zreturn d_Tp_hasKey_22 rfl, trivial⟩), (fun q h => by cases h), (fun _ => rfl)⟩
theorem d_Tp_init_0 : decode b_Tp_init 0 = .ok (.aload_n 0, 1) := by decide +kernel
theorem d_Tp_init_1 : decode b_Tp_init 1 = .ok (.invokespecial 3, 3) := by decide +kernel
theorem d_Tp_init_4 : decode b_Tp_init 4 = .ok (.aload_n 0, 1) := by decide +kernel
theorem d_Tp_init_5 : decode b_Tp_init 5 = .ok (.bipush 60, 2) := by decide +kernel
theorem d_Tp_init_7 : decode b_Tp_init 7 = .ok (.newarray .byte, 2) := by decide +kernel
theorem d_Tp_init_9 : decode b_Tp_init 9 = .ok (.putfield 9, 3) := by decide +kernel
theorem d_Tp_init_12 : decode b_Tp_init 12 = .ok (.return_, 1) := by decide +kernel
def q_Tp_init : List (Nat × j_S) := [(0, j_ld 2 0 1),
  (1, j_oi 4),
  (4, j_ld 2 0 5),
  (5, j_st (f_psh (.int 60)) 7),
  (7, j_na 2 9),
  (9, j_pf [1] 1 2 12),
  (12, j_rv)]
def i_Tp_init : j_I := (R_Tp, b_Tp_init, 1, true, none, [])
def e_Tp_init : j_E := ((y_Tp_init, c_Tp_init), i_Tp_init, j_tab q_Tp_init, [])
theorem o_Tp_init (G : j_G) : j_mok G tm e_Tp_init := ⟨by decide +kernel, Or.inl ⟨rfl, rfl⟩, rfl, (fun _ => rfl), j_tab_ok (i := i_Tp_init) (l := q_Tp_init) (j_all_mem ⟨r_aload_n d_Tp_init_0 rfl,
  r_objInit k_48 k_oi k_oc d_Tp_init_1,
  r_aload_n d_Tp_init_4 rfl,
  r_bipush d_Tp_init_5 (by decide),
  r_newarray rfl rfl k_56 (by decide) (fun _ => rfl) (fun U cA h1 h2 => Option.some.inj (h2.symm.trans h1)) d_Tp_init_7,
  r_putfield (fin := true) (j_all_mem ⟨⟨_, _, _, t_Tp, _, rfl, w_Tp, t_Tp_ok, n_Tp, by decide, rfl, t_Tp_ok 1 (by decide), Or.inr (Or.inr (Or.inl ⟨rfl, by first | exact Or.inl ⟨_, rfl⟩ | exact Or.inr ⟨_, rfl⟩⟩)), ⟨_, k_49, Or.inl rfl⟩, (fun _ => rfl)⟩, trivial⟩) (fun _ => rfl) d_Tp_init_9,
  r_return d_Tp_init_12 rfl, trivial⟩), (fun q h => by cases h), (fun _ => rfl)⟩
theorem d_Tp_length_0 : decode b_Tp_length 0 = .ok (.aload_n 0, 1) := by decide +kernel
theorem d_Tp_length_1 : decode b_Tp_length 1 = .ok (.getfield 15, 3) := by decide +kernel
theorem d_Tp_length_4 : decode b_Tp_length 4 = .ok (.ireturn, 1) := by decide +kernel
def q_Tp_length : List (Nat × j_S) := [(0, j_ld 2 0 1),
  (1, j_gf [1] 0 4),
  (4, j_rt 0)]
def i_Tp_length : j_I := (R_Tp, b_Tp_length, 1, false, (some .int), [])
def e_Tp_length : j_E := ((y_Tp_length, c_Tp_length), i_Tp_length, j_tab q_Tp_length, [])
theorem o_Tp_length (G : j_G) : j_mok G tm e_Tp_length := ⟨by decide +kernel, Or.inl ⟨rfl, rfl⟩, rfl, (fun h => by cases h), j_tab_ok (i := i_Tp_length) (l := q_Tp_length) (j_all_mem ⟨r_aload_n d_Tp_length_0 rfl,
  r_getfield (j_all_mem ⟨⟨_, _, _, rfl, w_Tp, by decide, ⟨_, k_50, Or.inl rfl⟩⟩, trivial⟩) d_Tp_length_1,
  r_ireturn d_Tp_length_4 rfl, trivial⟩), (fun q h => by cases h), (fun _ => rfl)⟩
theorem d_Tp_moveTo_0 : decode b_Tp_moveTo 0 = .ok (.aload_n 1, 1) := by decide +kernel
theorem d_Tp_moveTo_1 : decode b_Tp_moveTo 1 = .ok (.aload_n 0, 1) := by decide +kernel
theorem d_Tp_moveTo_2 : decode b_Tp_moveTo 2 = .ok (.getfield 9, 3) := by decide +kernel
theorem d_Tp_moveTo_5 : decode b_Tp_moveTo 5 = .ok (.aload_n 0, 1) := by decide +kernel
theorem d_Tp_moveTo_6 : decode b_Tp_moveTo 6 = .ok (.getfield 15, 3) := by decide +kernel
theorem d_Tp_moveTo_9 : decode b_Tp_moveTo 9 = .ok (.invokevirtual 19, 3) := by decide +kernel
theorem d_Tp_moveTo_12 : decode b_Tp_moveTo 12 = .ok (.aload_n 0, 1) := by decide +kernel
theorem d_Tp_moveTo_13 : decode b_Tp_moveTo 13 = .ok (.iconst 0, 1) := by decide +kernel
theorem d_Tp_moveTo_14 : decode b_Tp_moveTo 14 = .ok (.putfield 15, 3) := by decide +kernel
theorem d_Tp_moveTo_17 : decode b_Tp_moveTo 17 = .ok (.return_, 1) := by decide +kernel
def q_Tp_moveTo : List (Nat × j_S) := [(0, j_ld 2 1 1),
  (1, j_ld 2 0 2),
  (2, j_gf [1] 1 5),
  (5, j_ld 2 0 6),
  (6, j_gf [1] 0 9),
  (9, j_cv [(8, 139)] 2),
  (12, j_ld 2 0 13),
  (13, j_st (f_psh (.int 0)) 14),
  (14, j_pf [1] 0 0 17),
  (17, j_rv)]
def i_Tp_moveTo : j_I := (R_Tp, b_Tp_moveTo, 2, false, none, [])
def e_Tp_moveTo : j_E := ((y_Tp_moveTo, c_Tp_moveTo), i_Tp_moveTo, j_tab q_Tp_moveTo, [])
theorem o_Tp_moveTo (G : j_G) : j_mok G tm e_Tp_moveTo := ⟨by decide +kernel, Or.inl ⟨rfl, rfl⟩, rfl, (fun h => by cases h), j_tab_ok (i := i_Tp_moveTo) (l := q_Tp_moveTo) (j_all_mem ⟨r_aload_n d_Tp_moveTo_0 rfl,
  r_aload_n d_Tp_moveTo_1 rfl,
  r_getfield (j_all_mem ⟨⟨_, _, _, rfl, w_Tp, by decide, ⟨_, k_49, Or.inl rfl⟩⟩, trivial⟩) d_Tp_moveTo_2,
  r_aload_n d_Tp_moveTo_5 rfl,
  r_getfield (j_all_mem ⟨⟨_, _, _, rfl, w_Tp, by decide, ⟨_, k_50, Or.inl rfl⟩⟩, trivial⟩) d_Tp_moveTo_6,
  r_invV (j_all_mem ⟨⟨⟨_, _, _, rfl, k_1105, k_1106, k_1107⟩, cw_Ve_setKey, by decide, by decide +kernel⟩, trivial⟩) d_Tp_moveTo_9,
  r_aload_n d_Tp_moveTo_12 rfl,
  r_iconst d_Tp_moveTo_13 (by decide),
  r_putfield (fin := false) (j_all_mem ⟨⟨_, _, _, t_Tp, _, rfl, w_Tp, t_Tp_ok, n_Tp, by decide, rfl, t_Tp_ok 0 (by decide), Or.inl ⟨rfl, rfl⟩, ⟨_, k_50, Or.inl rfl⟩, (fun h => by cases h)⟩, trivial⟩) (fun h => by cases h) d_Tp_moveTo_14,
  r_return d_Tp_moveTo_17 rfl, trivial⟩), (fun q h => by cases h), (fun _ => rfl)⟩
theorem d_Vi_begin_0 : decode b_Vi_begin 0 = .ok (.iload_n 1, 1) := by decide +kernel
theorem d_Vi_begin_1 : decode b_Vi_begin 1 = .ok (.ifCond .lt 19, 3) := by decide +kernel
theorem d_Vi_begin_4 : decode b_Vi_begin 4 = .ok (.iload_n 1, 1) := by decide +kernel
theorem d_Vi_begin_5 : decode b_Vi_begin 5 = .ok (.bipush 8, 2) := by decide +kernel
theorem d_Vi_begin_7 : decode b_Vi_begin 7 = .ok (.if_icmp .ge 13, 3) := by decide +kernel
theorem d_Vi_begin_10 : decode b_Vi_begin 10 = .ok (.aload_n 0, 1) := by decide +kernel
theorem d_Vi_begin_11 : decode b_Vi_begin 11 = .ok (.getfield 9, 3) := by decide +kernel
theorem d_Vi_begin_14 : decode b_Vi_begin 14 = .ok (.iload_n 1, 1) := by decide +kernel
theorem d_Vi_begin_15 : decode b_Vi_begin 15 = .ok (.aload_n 0, 1) := by decide +kernel
theorem d_Vi_begin_16 : decode b_Vi_begin 16 = .ok (.getfield 21, 3) := by decide +kernel
theorem d_Vi_begin_19 : decode b_Vi_begin 19 = .ok (.iastore, 1) := by decide +kernel
theorem d_Vi_begin_20 : decode b_Vi_begin 20 = .ok (.return_, 1) := by decide +kernel
def q_Vi_begin : List (Nat × j_S) := [(0, j_ld 0 1 1),
  (1, j_br (f_if (fun x => decide (x < 0))) 20 4),
  (4, j_ld 0 1 5),
  (5, j_st (f_psh (.int 8)) 7),
  (7, j_br (f_ic (fun x y => decide (y ≤ x))) 20 10),
  (10, j_ld 2 0 11),
  (11, j_gf [2] 1 14),
  (14, j_ld 0 1 15),
  (15, j_ld 2 0 16),
  (16, j_gf [2] 0 19),
  (19, j_ai 20),
  (20, j_rv)]
def i_Vi_begin : j_I := (R_Vi, b_Vi_begin, 2, false, none, [])
def e_Vi_begin : j_E := ((y_Vi_begin, c_Vi_begin), i_Vi_begin, j_tab q_Vi_begin, [])
theorem o_Vi_begin (G : j_G) : j_mok G tm e_Vi_begin := ⟨by decide +kernel, Or.inl ⟨rfl, rfl⟩, rfl, (fun h => by cases h), j_tab_ok (i := i_Vi_begin) (l := q_Vi_begin) (j_all_mem ⟨r_iload_n d_Vi_begin_0 rfl,
  r_if_lt d_Vi_begin_1 (by decide),
  r_iload_n d_Vi_begin_4 rfl,
  r_bipush d_Vi_begin_5 (by decide),
  r_ic_ge d_Vi_begin_7 (by decide),
  r_aload_n d_Vi_begin_10 rfl,
  r_getfield (j_all_mem ⟨⟨_, _, _, rfl, w_Vi, by decide, ⟨_, k_66, Or.inl rfl⟩⟩, trivial⟩) d_Vi_begin_11,
  r_iload_n d_Vi_begin_14 rfl,
  r_aload_n d_Vi_begin_15 rfl,
  r_getfield (j_all_mem ⟨⟨_, _, _, rfl, w_Vi, by decide, ⟨_, k_67, Or.inl rfl⟩⟩, trivial⟩) d_Vi_begin_16,
  r_iastore d_Vi_begin_19,
  r_return d_Vi_begin_20 rfl, trivial⟩), (fun q h => by cases h), (fun _ => rfl)⟩
theorem d_Vi_finish_0 : decode b_Vi_finish 0 = .ok (.iload_n 1, 1) := by decide +kernel
theorem d_Vi_finish_1 : decode b_Vi_finish 1 = .ok (.ifCond .lt 16, 3) := by decide +kernel
theorem d_Vi_finish_4 : decode b_Vi_finish 4 = .ok (.iload_n 1, 1) := by decide +kernel
theorem d_Vi_finish_5 : decode b_Vi_finish 5 = .ok (.bipush 8, 2) := by decide +kernel
theorem d_Vi_finish_7 : decode b_Vi_finish 7 = .ok (.if_icmp .ge 10, 3) := by decide +kernel
theorem d_Vi_finish_10 : decode b_Vi_finish 10 = .ok (.aload_n 0, 1) := by decide +kernel
theorem d_Vi_finish_11 : decode b_Vi_finish 11 = .ok (.getfield 9, 3) := by decide +kernel
theorem d_Vi_finish_14 : decode b_Vi_finish 14 = .ok (.iload_n 1, 1) := by decide +kernel
theorem d_Vi_finish_15 : decode b_Vi_finish 15 = .ok (.iconst (-1), 1) := by decide +kernel
theorem d_Vi_finish_16 : decode b_Vi_finish 16 = .ok (.iastore, 1) := by decide +kernel
theorem d_Vi_finish_17 : decode b_Vi_finish 17 = .ok (.return_, 1) := by decide +kernel
def q_Vi_finish : List (Nat × j_S) := [(0, j_ld 0 1 1),
  (1, j_br (f_if (fun x => decide (x < 0))) 17 4),
  (4, j_ld 0 1 5),
  (5, j_st (f_psh (.int 8)) 7),
  (7, j_br (f_ic (fun x y => decide (y ≤ x))) 17 10),
  (10, j_ld 2 0 11),
  (11, j_gf [2] 1 14),
  (14, j_ld 0 1 15),
  (15, j_st (f_psh (.int (-1))) 16),
  (16, j_ai 17),
  (17, j_rv)]
def i_Vi_finish : j_I := (R_Vi, b_Vi_finish, 2, false, none, [])
def e_Vi_finish : j_E := ((y_Vi_finish, c_Vi_finish), i_Vi_finish, j_tab q_Vi_finish, [])
theorem o_Vi_finish (G : j_G) : j_mok G tm e_Vi_finish := ⟨by decide +kernel, Or.inl ⟨rfl, rfl⟩, rfl, (fun h => by cases h), j_tab_ok (i := i_Vi_finish) (l := q_Vi_finish) (j_all_mem ⟨r_iload_n d_Vi_finish_0 rfl,
  r_if_lt d_Vi_finish_1 (by decide),
  r_iload_n d_Vi_finish_4 rfl,
  r_bipush d_Vi_finish_5 (by decide),
  r_ic_ge d_Vi_finish_7 (by decide),
  r_aload_n d_Vi_finish_10 rfl,
  r_getfield (j_all_mem ⟨⟨_, _, _, rfl, w_Vi, by decide, ⟨_, k_66, Or.inl rfl⟩⟩, trivial⟩) d_Vi_finish_11,
  r_iload_n d_Vi_finish_14 rfl,
  r_iconst d_Vi_finish_15 (by decide),
  r_iastore d_Vi_finish_16,
  r_return d_Vi_finish_17 rfl, trivial⟩), (fun q h => by cases h), (fun _ => rfl)⟩
theorem d_Vi_init_0 : decode b_Vi_init 0 = .ok (.aload_n 0, 1) := by decide +kernel
theorem d_Vi_init_1 : decode b_Vi_init 1 = .ok (.invokespecial 3, 3) := by decide +kernel
theorem d_Vi_init_4 : decode b_Vi_init 4 = .ok (.aload_n 0, 1) := by decide +kernel
theorem d_Vi_init_5 : decode b_Vi_init 5 = .ok (.bipush 8, 2) := by decide +kernel
theorem d_Vi_init_7 : decode b_Vi_init 7 = .ok (.newarray .int, 2) := by decide +kernel
theorem d_Vi_init_9 : decode b_Vi_init 9 = .ok (.putfield 9, 3) := by decide +kernel
theorem d_Vi_init_12 : decode b_Vi_init 12 = .ok (.aload_n 0, 1) := by decide +kernel
theorem d_Vi_init_13 : decode b_Vi_init 13 = .ok (.getfield 9, 3) := by decide +kernel
theorem d_Vi_init_16 : decode b_Vi_init 16 = .ok (.iconst (-1), 1) := by decide +kernel
theorem d_Vi_init_17 : decode b_Vi_init 17 = .ok (.invokestatic 15, 3) := by decide +kernel
theorem d_Vi_init_20 : decode b_Vi_init 20 = .ok (.return_, 1) := by decide +kernel
def q_Vi_init : List (Nat × j_S) := [(0, j_ld 2 0 1),
  (1, j_oi 4),
  (4, j_ld 2 0 5),
  (5, j_st (f_psh (.int 8)) 7),
  (7, j_na 0 9),
  (9, j_pf [2] 1 2 12),
  (12, j_ld 2 0 13),
  (13, j_gf [2] 1 16),
  (16, j_st (f_psh (.int (-1))) 17),
  (17, j_cs 19 2),
  (20, j_rv)]
def i_Vi_init : j_I := (R_Vi, b_Vi_init, 1, true, none, [])
def e_Vi_init : j_E := ((y_Vi_init, c_Vi_init), i_Vi_init, j_tab q_Vi_init, [])
theorem o_Vi_init (G : j_G) : j_mok G tm e_Vi_init := ⟨by decide +kernel, Or.inl ⟨rfl, rfl⟩, rfl, (fun _ => rfl), j_tab_ok (i := i_Vi_init) (l := q_Vi_init) (j_all_mem ⟨r_aload_n d_Vi_init_0 rfl,
  r_objInit k_62 k_oi k_oc d_Vi_init_1,
  r_aload_n d_Vi_init_4 rfl,
  r_bipush d_Vi_init_5 (by decide),
  r_newarray rfl rfl k_73 (by decide) (fun _ => rfl) (fun U cA h1 h2 => Option.some.inj (h2.symm.trans h1)) d_Vi_init_7,
  r_putfield (fin := true) (j_all_mem ⟨⟨_, _, _, t_Vi, _, rfl, w_Vi, t_Vi_ok, n_Vi, by decide, rfl, t_Vi_ok 1 (by decide), Or.inr (Or.inr (Or.inl ⟨rfl, by first | exact Or.inl ⟨_, rfl⟩ | exact Or.inr ⟨_, rfl⟩⟩)), ⟨_, k_66, Or.inl rfl⟩, (fun _ => rfl)⟩, trivial⟩) (fun _ => rfl) d_Vi_init_9,
  r_aload_n d_Vi_init_12 rfl,
  r_getfield (j_all_mem ⟨⟨_, _, _, rfl, w_Vi, by decide, ⟨_, k_66, Or.inl rfl⟩⟩, trivial⟩) d_Vi_init_13,
  r_iconst d_Vi_init_16 (by decide),
  r_invS k_63 k_64 cw_Ar_fill_2aI (by decide) (by decide +kernel) d_Vi_init_17,
  r_return d_Vi_init_20 rfl, trivial⟩), (fun q h => by cases h), (fun _ => rfl)⟩
theorem d_Vi_momentOf_0 : decode b_Vi_momentOf 0 = .ok (.iload_n 1, 1) := by decide +kernel
theorem d_Vi_momentOf_1 : decode b_Vi_momentOf 1 = .ok (.ifCond .lt 18, 3) := by decide +kernel
theorem d_Vi_momentOf_4 : decode b_Vi_momentOf 4 = .ok (.iload_n 1, 1) := by decide +kernel
theorem d_Vi_momentOf_5 : decode b_Vi_momentOf 5 = .ok (.bipush 8, 2) := by decide +kernel
theorem d_Vi_momentOf_7 : decode b_Vi_momentOf 7 = .ok (.if_icmp .ge 12, 3) := by decide +kernel
theorem d_Vi_momentOf_10 : decode b_Vi_momentOf 10 = .ok (.aload_n 0, 1) := by decide +kernel
theorem d_Vi_momentOf_11 : decode b_Vi_momentOf 11 = .ok (.getfield 9, 3) := by decide +kernel
theorem d_Vi_momentOf_14 : decode b_Vi_momentOf 14 = .ok (.iload_n 1, 1) := by decide +kernel
theorem d_Vi_momentOf_15 : decode b_Vi_momentOf 15 = .ok (.iaload, 1) := by decide +kernel
theorem d_Vi_momentOf_16 : decode b_Vi_momentOf 16 = .ok (.goto 7, 3) := by decide +kernel
theorem d_Vi_momentOf_19 : decode b_Vi_momentOf 19 = .ok (.aload_n 0, 1) := by decide +kernel
theorem d_Vi_momentOf_20 : decode b_Vi_momentOf 20 = .ok (.getfield 21, 3) := by decide +kernel
theorem d_Vi_momentOf_23 : decode b_Vi_momentOf 23 = .ok (.ireturn, 1) := by decide +kernel
def q_Vi_momentOf : List (Nat × j_S) := [(0, j_ld 0 1 1),
  (1, j_br (f_if (fun x => decide (x < 0))) 19 4),
  (4, j_ld 0 1 5),
  (5, j_st (f_psh (.int 8)) 7),
  (7, j_br (f_ic (fun x y => decide (y ≤ x))) 19 10),
  (10, j_ld 2 0 11),
  (11, j_gf [2] 1 14),
  (14, j_ld 0 1 15),
  (15, j_al 0 16),
  (16, j_st f_id 23),
  (19, j_ld 2 0 20),
  (20, j_gf [2] 0 23),
  (23, j_rt 0)]
def i_Vi_momentOf : j_I := (R_Vi, b_Vi_momentOf, 2, false, (some .int), [])
def e_Vi_momentOf : j_E := ((y_Vi_momentOf, c_Vi_momentOf), i_Vi_momentOf, j_tab q_Vi_momentOf, [])
theorem o_Vi_momentOf (G : j_G) : j_mok G tm e_Vi_momentOf := ⟨by decide +kernel, Or.inl ⟨rfl, rfl⟩, rfl, (fun h => by cases h), j_tab_ok (i := i_Vi_momentOf) (l := q_Vi_momentOf) (j_all_mem ⟨r_iload_n d_Vi_momentOf_0 rfl,
  r_if_lt d_Vi_momentOf_1 (by decide),
  r_iload_n d_Vi_momentOf_4 rfl,
  r_bipush d_Vi_momentOf_5 (by decide),
  r_ic_ge d_Vi_momentOf_7 (by decide),
  r_aload_n d_Vi_momentOf_10 rfl,
  r_getfield (j_all_mem ⟨⟨_, _, _, rfl, w_Vi, by decide, ⟨_, k_66, Or.inl rfl⟩⟩, trivial⟩) d_Vi_momentOf_11,
  r_iload_n d_Vi_momentOf_14 rfl,
  r_iaload d_Vi_momentOf_15,
  r_goto d_Vi_momentOf_16 (by decide),
  r_aload_n d_Vi_momentOf_19 rfl,
  r_getfield (j_all_mem ⟨⟨_, _, _, rfl, w_Vi, by decide, ⟨_, k_67, Or.inl rfl⟩⟩, trivial⟩) d_Vi_momentOf_20,
  r_ireturn d_Vi_momentOf_23 rfl, trivial⟩), (fun q h => by cases h), (fun _ => rfl)⟩
theorem d_Vi_need_0 : decode b_Vi_need 0 = .ok (.iload_n 1, 1) := by decide +kernel
theorem d_Vi_need_1 : decode b_Vi_need 1 = .ok (.aload_n 0, 1) := by decide +kernel
theorem d_Vi_need_2 : decode b_Vi_need 2 = .ok (.getfield 21, 3) := by decide +kernel
theorem d_Vi_need_5 : decode b_Vi_need 5 = .ok (.if_icmp .gt 13, 3) := by decide +kernel
theorem d_Vi_need_8 : decode b_Vi_need 8 = .ok (.aload_n 0, 1) := by decide +kernel
theorem d_Vi_need_9 : decode b_Vi_need 9 = .ok (.getfield 21, 3) := by decide +kernel
theorem d_Vi_need_12 : decode b_Vi_need 12 = .ok (.iload_n 2, 1) := by decide +kernel
theorem d_Vi_need_13 : decode b_Vi_need 13 = .ok (.if_icmp .ge 5, 3) := by decide +kernel
theorem d_Vi_need_16 : decode b_Vi_need 16 = .ok (.iconst 1, 1) := by decide +kernel
theorem d_Vi_need_17 : decode b_Vi_need 17 = .ok (.ireturn, 1) := by decide +kernel
theorem d_Vi_need_18 : decode b_Vi_need 18 = .ok (.iconst 0, 1) := by decide +kernel
theorem d_Vi_need_19 : decode b_Vi_need 19 = .ok (.istore_n 3, 1) := by decide +kernel
theorem d_Vi_need_20 : decode b_Vi_need 20 = .ok (.iload_n 3, 1) := by decide +kernel
theorem d_Vi_need_21 : decode b_Vi_need 21 = .ok (.bipush 8, 2) := by decide +kernel
theorem d_Vi_need_23 : decode b_Vi_need 23 = .ok (.if_icmp .ge 31, 3) := by decide +kernel
theorem d_Vi_need_26 : decode b_Vi_need 26 = .ok (.iload_n 1, 1) := by decide +kernel
theorem d_Vi_need_27 : decode b_Vi_need 27 = .ok (.aload_n 0, 1) := by decide +kernel
theorem d_Vi_need_28 : decode b_Vi_need 28 = .ok (.getfield 9, 3) := by decide +kernel
theorem d_Vi_need_31 : decode b_Vi_need 31 = .ok (.iload_n 3, 1) := by decide +kernel
theorem d_Vi_need_32 : decode b_Vi_need 32 = .ok (.iaload, 1) := by decide +kernel
theorem d_Vi_need_33 : decode b_Vi_need 33 = .ok (.if_icmp .gt 15, 3) := by decide +kernel
theorem d_Vi_need_36 : decode b_Vi_need 36 = .ok (.aload_n 0, 1) := by decide +kernel
theorem d_Vi_need_37 : decode b_Vi_need 37 = .ok (.getfield 9, 3) := by decide +kernel
theorem d_Vi_need_40 : decode b_Vi_need 40 = .ok (.iload_n 3, 1) := by decide +kernel
theorem d_Vi_need_41 : decode b_Vi_need 41 = .ok (.iaload, 1) := by decide +kernel
theorem d_Vi_need_42 : decode b_Vi_need 42 = .ok (.iload_n 2, 1) := by decide +kernel
theorem d_Vi_need_43 : decode b_Vi_need 43 = .ok (.if_icmp .ge 5, 3) := by decide +kernel
theorem d_Vi_need_46 : decode b_Vi_need 46 = .ok (.iconst 1, 1) := by decide +kernel
theorem d_Vi_need_47 : decode b_Vi_need 47 = .ok (.ireturn, 1) := by decide +kernel
theorem d_Vi_need_48 : decode b_Vi_need 48 = .ok (.iinc 3 1, 3) := by decide +kernel
theorem d_Vi_need_51 : decode b_Vi_need 51 = .ok (.goto (-31), 3) := by decide +kernel
theorem d_Vi_need_54 : decode b_Vi_need 54 = .ok (.iconst 0, 1) := by decide +kernel
theorem d_Vi_need_55 : decode b_Vi_need 55 = .ok (.ireturn, 1) := by decide +kernel
def q_Vi_need : List (Nat × j_S) := [(0, j_ld 0 1 1),
  (1, j_ld 2 0 2),
  (2, j_gf [2] 0 5),
  (5, j_br (f_ic (fun x y => decide (y < x))) 18 8),
  (8, j_ld 2 0 9),
  (9, j_gf [2] 0 12),
  (12, j_ld 0 2 13),
  (13, j_br (f_ic (fun x y => decide (y ≤ x))) 18 16),
  (16, j_st (f_psh (.int 1)) 17),
  (17, j_rt 3),
  (18, j_st (f_psh (.int 0)) 19),
  (19, j_so 0 3 20),
  (20, j_ld 0 3 21),
  (21, j_st (f_psh (.int 8)) 23),
  (23, j_br (f_ic (fun x y => decide (y ≤ x))) 54 26),
  (26, j_ld 0 1 27),
  (27, j_ld 2 0 28),
  (28, j_gf [2] 1 31),
  (31, j_ld 0 3 32),
  (32, j_al 0 33),
  (33, j_br (f_ic (fun x y => decide (y < x))) 48 36),
  (36, j_ld 2 0 37),
  (37, j_gf [2] 1 40),
  (40, j_ld 0 3 41),
  (41, j_al 0 42),
  (42, j_ld 0 2 43),
  (43, j_br (f_ic (fun x y => decide (y ≤ x))) 48 46),
  (46, j_st (f_psh (.int 1)) 47),
  (47, j_rt 3),
  (48, j_ic 3 1 51),
  (51, j_st f_id 20),
  (54, j_st (f_psh (.int 0)) 55),
  (55, j_rt 3)]
def i_Vi_need : j_I := (R_Vi, b_Vi_need, 4, false, (some .boolean), [])
def e_Vi_need : j_E := ((y_Vi_need, c_Vi_need), i_Vi_need, j_tab q_Vi_need, [])
theorem o_Vi_need (G : j_G) : j_mok G tm e_Vi_need := ⟨by decide +kernel, Or.inl ⟨rfl, rfl⟩, rfl, (fun h => by cases h), j_tab_ok (i := i_Vi_need) (l := q_Vi_need) (j_all_mem ⟨r_iload_n d_Vi_need_0 rfl,
  r_aload_n d_Vi_need_1 rfl,
  r_getfield (j_all_mem ⟨⟨_, _, _, rfl, w_Vi, by decide, ⟨_, k_67, Or.inl rfl⟩⟩, trivial⟩) d_Vi_need_2,
  r_ic_gt d_Vi_need_5 (by decide),
  r_aload_n d_Vi_need_8 rfl,
  r_getfield (j_all_mem ⟨⟨_, _, _, rfl, w_Vi, by decide, ⟨_, k_67, Or.inl rfl⟩⟩, trivial⟩) d_Vi_need_9,
  r_iload_n d_Vi_need_12 rfl,
  r_ic_ge d_Vi_need_13 (by decide),
  r_iconst d_Vi_need_16 (by decide),
  r_zreturn d_Vi_need_17 rfl,
  r_iconst d_Vi_need_18 (by decide),
  r_istore_n d_Vi_need_19 rfl (by decide),
  r_iload_n d_Vi_need_20 rfl,
  r_bipush d_Vi_need_21 (by decide),
  r_ic_ge d_Vi_need_23 (by decide),
  r_iload_n d_Vi_need_26 rfl,
  r_aload_n d_Vi_need_27 rfl,
  r_getfield (j_all_mem ⟨⟨_, _, _, rfl, w_Vi, by decide, ⟨_, k_66, Or.inl rfl⟩⟩, trivial⟩) d_Vi_need_28,
  r_iload_n d_Vi_need_31 rfl,
  r_iaload d_Vi_need_32,
  r_ic_gt d_Vi_need_33 (by decide),
  r_aload_n d_Vi_need_36 rfl,
  r_getfield (j_all_mem ⟨⟨_, _, _, rfl, w_Vi, by decide, ⟨_, k_66, Or.inl rfl⟩⟩, trivial⟩) d_Vi_need_37,
  r_iload_n d_Vi_need_40 rfl,
  r_iaload d_Vi_need_41,
  r_iload_n d_Vi_need_42 rfl,
  r_ic_ge d_Vi_need_43 (by decide),
  r_iconst d_Vi_need_46 (by decide),
  r_zreturn d_Vi_need_47 rfl,
  j_ok_ic d_Vi_need_48 rfl (by decide) (by decide),
  r_goto d_Vi_need_51 (by decide),
  r_iconst d_Vi_need_54 (by decide),
  r_zreturn d_Vi_need_55 rfl, trivial⟩), (fun q h => by cases h), (fun _ => rfl)⟩
theorem d_Vi_present_0 : decode b_Vi_present 0 = .ok (.aload_n 0, 1) := by decide +kernel
theorem d_Vi_present_1 : decode b_Vi_present 1 = .ok (.getfield 21, 3) := by decide +kernel
theorem d_Vi_present_4 : decode b_Vi_present 4 = .ok (.ireturn, 1) := by decide +kernel
def q_Vi_present : List (Nat × j_S) := [(0, j_ld 2 0 1),
  (1, j_gf [2] 0 4),
  (4, j_rt 0)]
def i_Vi_present : j_I := (R_Vi, b_Vi_present, 1, false, (some .int), [])
def e_Vi_present : j_E := ((y_Vi_present, c_Vi_present), i_Vi_present, j_tab q_Vi_present, [])
theorem o_Vi_present (G : j_G) : j_mok G tm e_Vi_present := ⟨by decide +kernel, Or.inl ⟨rfl, rfl⟩, rfl, (fun h => by cases h), j_tab_ok (i := i_Vi_present) (l := q_Vi_present) (j_all_mem ⟨r_aload_n d_Vi_present_0 rfl,
  r_getfield (j_all_mem ⟨⟨_, _, _, rfl, w_Vi, by decide, ⟨_, k_67, Or.inl rfl⟩⟩, trivial⟩) d_Vi_present_1,
  r_ireturn d_Vi_present_4 rfl, trivial⟩), (fun q h => by cases h), (fun _ => rfl)⟩
theorem d_Vi_step_0 : decode b_Vi_step 0 = .ok (.aload_n 0, 1) := by decide +kernel
theorem d_Vi_step_1 : decode b_Vi_step 1 = .ok (.dup, 1) := by decide +kernel
theorem d_Vi_step_2 : decode b_Vi_step 2 = .ok (.getfield 21, 3) := by decide +kernel
theorem d_Vi_step_5 : decode b_Vi_step 5 = .ok (.iconst 1, 1) := by decide +kernel
theorem d_Vi_step_6 : decode b_Vi_step 6 = .ok (.iadd, 1) := by decide +kernel
theorem d_Vi_step_7 : decode b_Vi_step 7 = .ok (.putfield 21, 3) := by decide +kernel
theorem d_Vi_step_10 : decode b_Vi_step 10 = .ok (.return_, 1) := by decide +kernel
def q_Vi_step : List (Nat × j_S) := [(0, j_ld 2 0 1),
  (1, j_st (f_dup) 2),
  (2, j_gf [2] 0 5),
  (5, j_st (f_psh (.int 1)) 6),
  (6, j_st (f_ii (fun a b => a + b)) 7),
  (7, j_pf [2] 0 0 10),
  (10, j_rv)]
def i_Vi_step : j_I := (R_Vi, b_Vi_step, 1, false, none, [])
def e_Vi_step : j_E := ((y_Vi_step, c_Vi_step), i_Vi_step, j_tab q_Vi_step, [])
theorem o_Vi_step (G : j_G) : j_mok G tm e_Vi_step := ⟨by decide +kernel, Or.inl ⟨rfl, rfl⟩, rfl, (fun h => by cases h), j_tab_ok (i := i_Vi_step) (l := q_Vi_step) (j_all_mem ⟨r_aload_n d_Vi_step_0 rfl,
  r_dup d_Vi_step_1,
  r_getfield (j_all_mem ⟨⟨_, _, _, rfl, w_Vi, by decide, ⟨_, k_67, Or.inl rfl⟩⟩, trivial⟩) d_Vi_step_2,
  r_iconst d_Vi_step_5 (by decide),
  r_iadd d_Vi_step_6,
  r_putfield (fin := false) (j_all_mem ⟨⟨_, _, _, t_Vi, _, rfl, w_Vi, t_Vi_ok, n_Vi, by decide, rfl, t_Vi_ok 0 (by decide), Or.inl ⟨rfl, rfl⟩, ⟨_, k_67, Or.inl rfl⟩, (fun h => by cases h)⟩, trivial⟩) (fun h => by cases h) d_Vi_step_7,
  r_return d_Vi_step_10 rfl, trivial⟩), (fun q h => by cases h), (fun _ => rfl)⟩
