/-! the methods of Lv: their instructions, and that each is right (written by wip/whole/gen.py) -/
theorem d_Lv_count_0 : decode b_Lv_count 0 = .ok (.aload_n 0, 1) := by decide +kernel
theorem d_Lv_count_1 : decode b_Lv_count 1 = .ok (.getfield 22, 3) := by decide +kernel
theorem d_Lv_count_4 : decode b_Lv_count 4 = .ok (.ireturn, 1) := by decide +kernel
def q_Lv_count : List (Nat × j_S) := [(0, j_ld 2 0 1),
  (1, j_gf [5] 1 4),
  (4, j_rt 0)]
def i_Lv_count : j_I := (R_Lv, b_Lv_count, 1, false, (some .int), [])
def e_Lv_count : j_E := ((y_Lv_count, c_Lv_count), i_Lv_count, j_tab q_Lv_count, [])
theorem o_Lv_count (G : j_G) : j_mok G tm e_Lv_count := ⟨by decide +kernel, Or.inl ⟨rfl, rfl⟩, rfl, (fun h => by cases h), j_tab_ok (i := i_Lv_count) (l := q_Lv_count) (j_all_mem ⟨r_aload_n d_Lv_count_0 rfl,
  r_getfield (j_all_mem ⟨⟨_, _, _, rfl, w_Lv, by decide, ⟨_, k_167, Or.inl rfl⟩⟩, trivial⟩) d_Lv_count_1,
  r_ireturn d_Lv_count_4 rfl, trivial⟩), (fun q h => by cases h), (fun _ => rfl)⟩
theorem d_Lv_firstTableBeyond_0 : decode b_Lv_firstTableBeyond 0 = .ok (.aload_n 1, 1) := by decide +kernel
theorem d_Lv_firstTableBeyond_1 : decode b_Lv_firstTableBeyond 1 = .ok (.sipush 1023, 3) := by decide +kernel
theorem d_Lv_firstTableBeyond_4 : decode b_Lv_firstTableBeyond 4 = .ok (.invokevirtual 52, 3) := by decide +kernel
theorem d_Lv_firstTableBeyond_7 : decode b_Lv_firstTableBeyond 7 = .ok (.aload_n 0, 1) := by decide +kernel
theorem d_Lv_firstTableBeyond_8 : decode b_Lv_firstTableBeyond 8 = .ok (.aload_n 1, 1) := by decide +kernel
theorem d_Lv_firstTableBeyond_9 : decode b_Lv_firstTableBeyond 9 = .ok (.invokevirtual 58, 3) := by decide +kernel
theorem d_Lv_firstTableBeyond_12 : decode b_Lv_firstTableBeyond 12 = .ok (.istore_n 2, 1) := by decide +kernel
theorem d_Lv_firstTableBeyond_13 : decode b_Lv_firstTableBeyond 13 = .ok (.iload_n 2, 1) := by decide +kernel
theorem d_Lv_firstTableBeyond_14 : decode b_Lv_firstTableBeyond 14 = .ok (.ifCond .ne 7, 3) := by decide +kernel
theorem d_Lv_firstTableBeyond_17 : decode b_Lv_firstTableBeyond 17 = .ok (.iconst 0, 1) := by decide +kernel
theorem d_Lv_firstTableBeyond_18 : decode b_Lv_firstTableBeyond 18 = .ok (.goto 12, 3) := by decide +kernel
theorem d_Lv_firstTableBeyond_21 : decode b_Lv_firstTableBeyond 21 = .ok (.aload_n 0, 1) := by decide +kernel
theorem d_Lv_firstTableBeyond_22 : decode b_Lv_firstTableBeyond 22 = .ok (.iload_n 2, 1) := by decide +kernel
theorem d_Lv_firstTableBeyond_23 : decode b_Lv_firstTableBeyond 23 = .ok (.iconst 1, 1) := by decide +kernel
theorem d_Lv_firstTableBeyond_24 : decode b_Lv_firstTableBeyond 24 = .ok (.isub, 1) := by decide +kernel
theorem d_Lv_firstTableBeyond_25 : decode b_Lv_firstTableBeyond 25 = .ok (.invokevirtual 26, 3) := by decide +kernel
theorem d_Lv_firstTableBeyond_28 : decode b_Lv_firstTableBeyond 28 = .ok (.iconst 1, 1) := by decide +kernel
theorem d_Lv_firstTableBeyond_29 : decode b_Lv_firstTableBeyond 29 = .ok (.iadd, 1) := by decide +kernel
theorem d_Lv_firstTableBeyond_30 : decode b_Lv_firstTableBeyond 30 = .ok (.ireturn, 1) := by decide +kernel
def q_Lv_firstTableBeyond : List (Nat × j_S) := [(0, j_ld 2 1 1),
  (1, j_st (f_psh (.int 1023)) 4),
  (4, j_cv [(8, 140)] 1),
  (7, j_ld 2 0 8),
  (8, j_ld 2 1 9),
  (9, j_cv [(5, 111)] 1),
  (12, j_so 0 2 13),
  (13, j_ld 0 2 14),
  (14, j_br (f_if (fun x => decide (¬ x = 0))) 21 17),
  (17, j_st (f_psh (.int 0)) 18),
  (18, j_st f_id 30),
  (21, j_ld 2 0 22),
  (22, j_ld 0 2 23),
  (23, j_st (f_psh (.int 1)) 24),
  (24, j_st (f_ii (fun a b => a - b)) 25),
  (25, j_cv [(5, 81)] 1),
  (28, j_st (f_psh (.int 1)) 29),
  (29, j_st (f_ii (fun a b => a + b)) 30),
  (30, j_rt 0)]
def i_Lv_firstTableBeyond : j_I := (R_Lv, b_Lv_firstTableBeyond, 3, false, (some .int), [])
def e_Lv_firstTableBeyond : j_E := ((y_Lv_firstTableBeyond, c_Lv_firstTableBeyond), i_Lv_firstTableBeyond, j_tab q_Lv_firstTableBeyond, [])
theorem o_Lv_firstTableBeyond (G : j_G) : j_mok G tm e_Lv_firstTableBeyond := ⟨by decide +kernel, Or.inl ⟨rfl, rfl⟩, rfl, (fun h => by cases h), j_tab_ok (i := i_Lv_firstTableBeyond) (l := q_Lv_firstTableBeyond) (j_all_mem ⟨r_aload_n d_Lv_firstTableBeyond_0 rfl,
  r_sipush d_Lv_firstTableBeyond_1 (by decide),
  r_invV (j_all_mem ⟨⟨⟨_, _, _, rfl, k_310, k_311, k_312⟩, cw_Ve_setMoment, by decide, by decide +kernel⟩, trivial⟩) d_Lv_firstTableBeyond_4,
  r_aload_n d_Lv_firstTableBeyond_7 rfl,
  r_aload_n d_Lv_firstTableBeyond_8 rfl,
  r_invU (y0 := ⟨"LevelTables$Level", "firstNotBefore", "(LLevelTables$Version;)I"⟩) (owner := "LevelTables$Run") (j_all_mem ⟨⟨⟨_, _, _, rfl, k_322, k_323, k_325, k_326⟩, cw_Ru_firstNotBefore, by decide, by decide +kernel⟩, trivial⟩) (fun A U h hK => va_Decl.abs (hK.nw k_324)) d_Lv_firstTableBeyond_9,
  r_istore_n d_Lv_firstTableBeyond_12 rfl (by decide),
  r_iload_n d_Lv_firstTableBeyond_13 rfl,
  r_if_ne d_Lv_firstTableBeyond_14 (by decide),
  r_iconst d_Lv_firstTableBeyond_17 (by decide),
  r_goto d_Lv_firstTableBeyond_18 (by decide),
  r_aload_n d_Lv_firstTableBeyond_21 rfl,
  r_iload_n d_Lv_firstTableBeyond_22 rfl,
  r_iconst d_Lv_firstTableBeyond_23 (by decide),
  r_isub d_Lv_firstTableBeyond_24,
  r_invV (j_all_mem ⟨⟨⟨_, _, _, rfl, k_341, k_343, kp_Lv_tableWith⟩, cw_Lv_tableWith, by decide, by decide +kernel⟩, trivial⟩) d_Lv_firstTableBeyond_25,
  r_iconst d_Lv_firstTableBeyond_28 (by decide),
  r_iadd d_Lv_firstTableBeyond_29,
  r_ireturn d_Lv_firstTableBeyond_30 rfl, trivial⟩), (fun q h => by cases h), (fun _ => rfl)⟩
theorem d_Lv_firstTableReaching_0 : decode b_Lv_firstTableReaching 0 = .ok (.aload_n 1, 1) := by decide +kernel
theorem d_Lv_firstTableReaching_1 : decode b_Lv_firstTableReaching 1 = .ok (.iconst 0, 1) := by decide +kernel
theorem d_Lv_firstTableReaching_2 : decode b_Lv_firstTableReaching 2 = .ok (.invokevirtual 52, 3) := by decide +kernel
theorem d_Lv_firstTableReaching_5 : decode b_Lv_firstTableReaching 5 = .ok (.aload_n 0, 1) := by decide +kernel
theorem d_Lv_firstTableReaching_6 : decode b_Lv_firstTableReaching 6 = .ok (.aload_n 0, 1) := by decide +kernel
theorem d_Lv_firstTableReaching_7 : decode b_Lv_firstTableReaching 7 = .ok (.aload_n 1, 1) := by decide +kernel
theorem d_Lv_firstTableReaching_8 : decode b_Lv_firstTableReaching 8 = .ok (.invokevirtual 58, 3) := by decide +kernel
theorem d_Lv_firstTableReaching_11 : decode b_Lv_firstTableReaching 11 = .ok (.invokevirtual 26, 3) := by decide +kernel
theorem d_Lv_firstTableReaching_14 : decode b_Lv_firstTableReaching 14 = .ok (.ireturn, 1) := by decide +kernel
def q_Lv_firstTableReaching : List (Nat × j_S) := [(0, j_ld 2 1 1),
  (1, j_st (f_psh (.int 0)) 2),
  (2, j_cv [(8, 140)] 1),
  (5, j_ld 2 0 6),
  (6, j_ld 2 0 7),
  (7, j_ld 2 1 8),
  (8, j_cv [(5, 111)] 1),
  (11, j_cv [(5, 81)] 1),
  (14, j_rt 0)]
def i_Lv_firstTableReaching : j_I := (R_Lv, b_Lv_firstTableReaching, 2, false, (some .int), [])
def e_Lv_firstTableReaching : j_E := ((y_Lv_firstTableReaching, c_Lv_firstTableReaching), i_Lv_firstTableReaching, j_tab q_Lv_firstTableReaching, [])
theorem o_Lv_firstTableReaching (G : j_G) : j_mok G tm e_Lv_firstTableReaching := ⟨by decide +kernel, Or.inl ⟨rfl, rfl⟩, rfl, (fun h => by cases h), j_tab_ok (i := i_Lv_firstTableReaching) (l := q_Lv_firstTableReaching) (j_all_mem ⟨r_aload_n d_Lv_firstTableReaching_0 rfl,
  r_iconst d_Lv_firstTableReaching_1 (by decide),
  r_invV (j_all_mem ⟨⟨⟨_, _, _, rfl, k_310, k_311, k_312⟩, cw_Ve_setMoment, by decide, by decide +kernel⟩, trivial⟩) d_Lv_firstTableReaching_2,
  r_aload_n d_Lv_firstTableReaching_5 rfl,
  r_aload_n d_Lv_firstTableReaching_6 rfl,
  r_aload_n d_Lv_firstTableReaching_7 rfl,
  r_invU (y0 := ⟨"LevelTables$Level", "firstNotBefore", "(LLevelTables$Version;)I"⟩) (owner := "LevelTables$Run") (j_all_mem ⟨⟨⟨_, _, _, rfl, k_322, k_323, k_325, k_326⟩, cw_Ru_firstNotBefore, by decide, by decide +kernel⟩, trivial⟩) (fun A U h hK => va_Decl.abs (hK.nw k_324)) d_Lv_firstTableReaching_8,
  r_invV (j_all_mem ⟨⟨⟨_, _, _, rfl, k_341, k_343, kp_Lv_tableWith⟩, cw_Lv_tableWith, by decide, by decide +kernel⟩, trivial⟩) d_Lv_firstTableReaching_11,
  r_ireturn d_Lv_firstTableReaching_14 rfl, trivial⟩), (fun q h => by cases h), (fun _ => rfl)⟩
theorem d_Lv_init_0 : decode b_Lv_init 0 = .ok (.aload_n 0, 1) := by decide +kernel
theorem d_Lv_init_1 : decode b_Lv_init 1 = .ok (.invokespecial 3, 3) := by decide +kernel
theorem d_Lv_init_4 : decode b_Lv_init 4 = .ok (.aload_n 0, 1) := by decide +kernel
theorem d_Lv_init_5 : decode b_Lv_init 5 = .ok (.new 9, 3) := by decide +kernel
theorem d_Lv_init_8 : decode b_Lv_init 8 = .ok (.dup, 1) := by decide +kernel
theorem d_Lv_init_9 : decode b_Lv_init 9 = .ok (.invokespecial 11, 3) := by decide +kernel
theorem d_Lv_init_12 : decode b_Lv_init 12 = .ok (.putfield 12, 3) := by decide +kernel
theorem d_Lv_init_15 : decode b_Lv_init 15 = .ok (.aload_n 0, 1) := by decide +kernel
theorem d_Lv_init_16 : decode b_Lv_init 16 = .ok (.aload_n 1, 1) := by decide +kernel
theorem d_Lv_init_17 : decode b_Lv_init 17 = .ok (.putfield 18, 3) := by decide +kernel
theorem d_Lv_init_20 : decode b_Lv_init 20 = .ok (.return_, 1) := by decide +kernel
def q_Lv_init : List (Nat × j_S) := [(0, j_ld 2 0 1),
  (1, j_ci 112 0),
  (4, j_ld 2 0 5),
  (5, j_nw 10 3 [.int 0, .null, .int 0] 8),
  (8, j_st (f_dup) 9),
  (9, j_ci 9 0),
  (12, j_pf [5] 3 2 15),
  (15, j_ld 2 0 16),
  (16, j_ld 2 1 17),
  (17, j_pf [5] 2 2 20),
  (20, j_rv)]
def i_Lv_init : j_I := (R_Lv, b_Lv_init, 2, true, none, [])
def e_Lv_init : j_E := ((y_Lv_init, c_Lv_init), i_Lv_init, j_tab q_Lv_init, [])
theorem o_Lv_init (G : j_G) : j_mok G tm e_Lv_init := ⟨by decide +kernel, Or.inl ⟨rfl, rfl⟩, rfl, (fun _ => rfl), j_tab_ok (i := i_Lv_init) (l := q_Lv_init) (j_all_mem ⟨r_aload_n d_Lv_init_0 rfl,
  r_invIN k_138 k_104 rfl rfl cw_Ru_init (by decide) (by decide +kernel) d_Lv_init_1,
  r_aload_n d_Lv_init_4 rfl,
  r_new (ty := t_AL) rfl w_AL t_AL_ok k_139 k_140 k_12 (fun j hj => by revert j; decide) (by intro v hv a; revert v; simp) d_Lv_init_5,
  r_dup d_Lv_init_8,
  r_invI k_141 k_142 rfl rfl cw_AL_init (by decide) (by decide +kernel) d_Lv_init_9,
  r_putfield (fin := true) (j_all_mem ⟨⟨_, _, _, t_Lv, _, rfl, w_Lv, t_Lv_ok, n_Lv, by decide, rfl, t_Lv_ok 3 (by decide), Or.inr (Or.inr (Or.inl ⟨rfl, by first | exact Or.inl ⟨_, rfl⟩ | exact Or.inr ⟨_, rfl⟩⟩)), ⟨_, k_166, Or.inl rfl⟩, (fun _ => rfl)⟩, trivial⟩) (fun _ => rfl) d_Lv_init_12,
  r_aload_n d_Lv_init_15 rfl,
  r_aload_n d_Lv_init_16 rfl,
  r_putfield (fin := true) (j_all_mem ⟨⟨_, _, _, t_Lv, _, rfl, w_Lv, t_Lv_ok, n_Lv, by decide, rfl, t_Lv_ok 2 (by decide), Or.inr (Or.inr (Or.inl ⟨rfl, by first | exact Or.inl ⟨_, rfl⟩ | exact Or.inr ⟨_, rfl⟩⟩)), ⟨_, k_165, Or.inl rfl⟩, (fun _ => rfl)⟩, trivial⟩) (fun _ => rfl) d_Lv_init_17,
  r_return d_Lv_init_20 rfl, trivial⟩), (fun q h => by cases h), (fun _ => rfl)⟩
theorem d_Lv_insert_0 : decode b_Lv_insert 0 = .ok (.iconst 0, 1) := by decide +kernel
theorem d_Lv_insert_1 : decode b_Lv_insert 1 = .ok (.istore_n 3, 1) := by decide +kernel
theorem d_Lv_insert_2 : decode b_Lv_insert 2 = .ok (.iload_n 3, 1) := by decide +kernel
theorem d_Lv_insert_3 : decode b_Lv_insert 3 = .ok (.aload_n 2, 1) := by decide +kernel
theorem d_Lv_insert_4 : decode b_Lv_insert 4 = .ok (.invokevirtual 30, 3) := by decide +kernel
theorem d_Lv_insert_7 : decode b_Lv_insert 7 = .ok (.if_icmp .ge 44, 3) := by decide +kernel
theorem d_Lv_insert_10 : decode b_Lv_insert 10 = .ok (.iload_n 1, 1) := by decide +kernel
theorem d_Lv_insert_11 : decode b_Lv_insert 11 = .ok (.ifCond .lt 40, 3) := by decide +kernel
theorem d_Lv_insert_14 : decode b_Lv_insert 14 = .ok (.iload_n 1, 1) := by decide +kernel
theorem d_Lv_insert_15 : decode b_Lv_insert 15 = .ok (.iload_n 3, 1) := by decide +kernel
theorem d_Lv_insert_16 : decode b_Lv_insert 16 = .ok (.iadd, 1) := by decide +kernel
theorem d_Lv_insert_17 : decode b_Lv_insert 17 = .ok (.aload_n 0, 1) := by decide +kernel
theorem d_Lv_insert_18 : decode b_Lv_insert 18 = .ok (.getfield 12, 3) := by decide +kernel
theorem d_Lv_insert_21 : decode b_Lv_insert 21 = .ok (.invokevirtual 30, 3) := by decide +kernel
theorem d_Lv_insert_24 : decode b_Lv_insert 24 = .ok (.if_icmp .gt 27, 3) := by decide +kernel
theorem d_Lv_insert_27 : decode b_Lv_insert 27 = .ok (.aload_n 0, 1) := by decide +kernel
theorem d_Lv_insert_28 : decode b_Lv_insert 28 = .ok (.getfield 12, 3) := by decide +kernel
theorem d_Lv_insert_31 : decode b_Lv_insert 31 = .ok (.iload_n 1, 1) := by decide +kernel
theorem d_Lv_insert_32 : decode b_Lv_insert 32 = .ok (.iload_n 3, 1) := by decide +kernel
theorem d_Lv_insert_33 : decode b_Lv_insert 33 = .ok (.iadd, 1) := by decide +kernel
theorem d_Lv_insert_34 : decode b_Lv_insert 34 = .ok (.aload_n 2, 1) := by decide +kernel
theorem d_Lv_insert_35 : decode b_Lv_insert 35 = .ok (.iload_n 3, 1) := by decide +kernel
theorem d_Lv_insert_36 : decode b_Lv_insert 36 = .ok (.invokevirtual 34, 3) := by decide +kernel
theorem d_Lv_insert_39 : decode b_Lv_insert 39 = .ok (.checkcast 38, 3) := by decide +kernel
theorem d_Lv_insert_42 : decode b_Lv_insert 42 = .ok (.invokevirtual 78, 3) := by decide +kernel
theorem d_Lv_insert_45 : decode b_Lv_insert 45 = .ok (.iinc 3 1, 3) := by decide +kernel
theorem d_Lv_insert_48 : decode b_Lv_insert 48 = .ok (.goto (-46), 3) := by decide +kernel
theorem d_Lv_insert_51 : decode b_Lv_insert 51 = .ok (.aload_n 0, 1) := by decide +kernel
theorem d_Lv_insert_52 : decode b_Lv_insert 52 = .ok (.invokevirtual 75, 3) := by decide +kernel
theorem d_Lv_insert_55 : decode b_Lv_insert 55 = .ok (.return_, 1) := by decide +kernel
def q_Lv_insert : List (Nat × j_S) := [(0, j_st (f_psh (.int 0)) 1),
  (1, j_so 0 3 2),
  (2, j_ld 0 3 3),
  (3, j_ld 2 2 4),
  (4, j_cv [(10, 12)] 0),
  (7, j_br (f_ic (fun x y => decide (y ≤ x))) 51 10),
  (10, j_ld 0 1 11),
  (11, j_br (f_if (fun x => decide (x < 0))) 51 14),
  (14, j_ld 0 1 15),
  (15, j_ld 0 3 16),
  (16, j_st (f_ii (fun a b => a + b)) 17),
  (17, j_ld 2 0 18),
  (18, j_gf [5] 3 21),
  (21, j_cv [(10, 12)] 0),
  (24, j_br (f_ic (fun x y => decide (y < x))) 51 27),
  (27, j_ld 2 0 28),
  (28, j_gf [5] 3 31),
  (31, j_ld 0 1 32),
  (32, j_ld 0 3 33),
  (33, j_st (f_ii (fun a b => a + b)) 34),
  (34, j_ld 2 2 35),
  (35, j_ld 0 3 36),
  (36, j_cv [(10, 6)] 1),
  (39, j_cc [9] [] 42),
  (42, j_cv [(10, 1)] 2),
  (45, j_ic 3 1 48),
  (48, j_st f_id 2),
  (51, j_ld 2 0 52),
  (52, j_cv [(5, 78)] 0),
  (55, j_rv)]
def i_Lv_insert : j_I := (R_Lv, b_Lv_insert, 4, false, none, [])
def e_Lv_insert : j_E := ((y_Lv_insert, c_Lv_insert), i_Lv_insert, j_tab q_Lv_insert, [])
theorem o_Lv_insert (G : j_G) : j_mok G tm e_Lv_insert := ⟨by decide +kernel, Or.inl ⟨rfl, rfl⟩, rfl, (fun h => by cases h), j_tab_ok (i := i_Lv_insert) (l := q_Lv_insert) (j_all_mem ⟨r_iconst d_Lv_insert_0 (by decide),
  r_istore_n d_Lv_insert_1 rfl (by decide),
  r_iload_n d_Lv_insert_2 rfl,
  r_aload_n d_Lv_insert_3 rfl,
  r_invV (j_all_mem ⟨⟨⟨_, _, _, rfl, k_345, k_346, k_347⟩, cw_AL_size, by decide, by decide +kernel⟩, trivial⟩) d_Lv_insert_4,
  r_ic_ge d_Lv_insert_7 (by decide),
  r_iload_n d_Lv_insert_10 rfl,
  r_if_lt d_Lv_insert_11 (by decide),
  r_iload_n d_Lv_insert_14 rfl,
  r_iload_n d_Lv_insert_15 rfl,
  r_iadd d_Lv_insert_16,
  r_aload_n d_Lv_insert_17 rfl,
  r_getfield (j_all_mem ⟨⟨_, _, _, rfl, w_Lv, by decide, ⟨_, k_166, Or.inl rfl⟩⟩, trivial⟩) d_Lv_insert_18,
  r_invV (j_all_mem ⟨⟨⟨_, _, _, rfl, k_345, k_346, k_347⟩, cw_AL_size, by decide, by decide +kernel⟩, trivial⟩) d_Lv_insert_21,
  r_ic_gt d_Lv_insert_24 (by decide),
  r_aload_n d_Lv_insert_27 rfl,
  r_getfield (j_all_mem ⟨⟨_, _, _, rfl, w_Lv, by decide, ⟨_, k_166, Or.inl rfl⟩⟩, trivial⟩) d_Lv_insert_28,
  r_iload_n d_Lv_insert_31 rfl,
  r_iload_n d_Lv_insert_32 rfl,
  r_iadd d_Lv_insert_33,
  r_aload_n d_Lv_insert_34 rfl,
  r_iload_n d_Lv_insert_35 rfl,
  r_invV (j_all_mem ⟨⟨⟨_, _, _, rfl, k_349, k_350, k_351⟩, cw_AL_get, by decide, by decide +kernel⟩, trivial⟩) d_Lv_insert_36,
  r_checkcast k_363 (j_all_mem ⟨⟨_, _, rfl⟩, trivial⟩) (fun c h => by cases h) d_Lv_insert_39,
  r_invV (j_all_mem ⟨⟨⟨_, _, _, rfl, k_641, k_642, k_643⟩, cw_AL_add_2, by decide, by decide +kernel⟩, trivial⟩) d_Lv_insert_42,
  j_ok_ic d_Lv_insert_45 rfl (by decide) (by decide),
  r_goto d_Lv_insert_48 (by decide),
  r_aload_n d_Lv_insert_51 rfl,
  r_invV (j_all_mem ⟨⟨⟨_, _, _, rfl, k_621, k_623, kp_Lv_renumber⟩, cw_Lv_renumber, by decide, by decide +kernel⟩, trivial⟩) d_Lv_insert_52,
  r_return d_Lv_insert_55 rfl, trivial⟩), (fun q h => by cases h), (fun _ => rfl)⟩
theorem d_Lv_isSound_0 : decode b_Lv_isSound 0 = .ok (.iconst 0, 1) := by decide +kernel
theorem d_Lv_isSound_1 : decode b_Lv_isSound 1 = .ok (.istore_n 3, 1) := by decide +kernel
theorem d_Lv_isSound_2 : decode b_Lv_isSound 2 = .ok (.iload_n 3, 1) := by decide +kernel
theorem d_Lv_isSound_3 : decode b_Lv_isSound 3 = .ok (.aload_n 0, 1) := by decide +kernel
theorem d_Lv_isSound_4 : decode b_Lv_isSound 4 = .ok (.getfield 12, 3) := by decide +kernel
theorem d_Lv_isSound_7 : decode b_Lv_isSound 7 = .ok (.invokevirtual 30, 3) := by decide +kernel
theorem d_Lv_isSound_10 : decode b_Lv_isSound 10 = .ok (.if_icmp .ge 73, 3) := by decide +kernel
theorem d_Lv_isSound_13 : decode b_Lv_isSound 13 = .ok (.aload_n 0, 1) := by decide +kernel
theorem d_Lv_isSound_14 : decode b_Lv_isSound 14 = .ok (.getfield 12, 3) := by decide +kernel
theorem d_Lv_isSound_17 : decode b_Lv_isSound 17 = .ok (.iload_n 3, 1) := by decide +kernel
theorem d_Lv_isSound_18 : decode b_Lv_isSound 18 = .ok (.invokevirtual 34, 3) := by decide +kernel
theorem d_Lv_isSound_21 : decode b_Lv_isSound 21 = .ok (.checkcast 38, 3) := by decide +kernel
theorem d_Lv_isSound_24 : decode b_Lv_isSound 24 = .ok (.astore 4, 2) := by decide +kernel
theorem d_Lv_isSound_26 : decode b_Lv_isSound 26 = .ok (.aload 4, 2) := by decide +kernel
theorem d_Lv_isSound_28 : decode b_Lv_isSound 28 = .ok (.aload_n 0, 1) := by decide +kernel
theorem d_Lv_isSound_29 : decode b_Lv_isSound 29 = .ok (.getfield 18, 3) := by decide +kernel
theorem d_Lv_isSound_32 : decode b_Lv_isSound 32 = .ok (.invokevirtual 87, 3) := by decide +kernel
theorem d_Lv_isSound_35 : decode b_Lv_isSound 35 = .ok (.ifCond .ne 5, 3) := by decide +kernel
theorem d_Lv_isSound_38 : decode b_Lv_isSound 38 = .ok (.iconst 0, 1) := by decide +kernel
theorem d_Lv_isSound_39 : decode b_Lv_isSound 39 = .ok (.ireturn, 1) := by decide +kernel
theorem d_Lv_isSound_40 : decode b_Lv_isSound 40 = .ok (.iload_n 3, 1) := by decide +kernel
theorem d_Lv_isSound_41 : decode b_Lv_isSound 41 = .ok (.ifCond .le 23, 3) := by decide +kernel
theorem d_Lv_isSound_44 : decode b_Lv_isSound 44 = .ok (.aload_n 0, 1) := by decide +kernel
theorem d_Lv_isSound_45 : decode b_Lv_isSound 45 = .ok (.aload 4, 2) := by decide +kernel
theorem d_Lv_isSound_47 : decode b_Lv_isSound 47 = .ok (.invokevirtual 40, 3) := by decide +kernel
theorem d_Lv_isSound_50 : decode b_Lv_isSound 50 = .ok (.aload_n 2, 1) := by decide +kernel
theorem d_Lv_isSound_51 : decode b_Lv_isSound 51 = .ok (.invokevirtual 91, 3) := by decide +kernel
theorem d_Lv_isSound_54 : decode b_Lv_isSound 54 = .ok (.aload_n 1, 1) := by decide +kernel
theorem d_Lv_isSound_55 : decode b_Lv_isSound 55 = .ok (.aload_n 2, 1) := by decide +kernel
theorem d_Lv_isSound_56 : decode b_Lv_isSound 56 = .ok (.invokevirtual 95, 3) := by decide +kernel
theorem d_Lv_isSound_59 : decode b_Lv_isSound 59 = .ok (.ifCond .lt 5, 3) := by decide +kernel
theorem d_Lv_isSound_62 : decode b_Lv_isSound 62 = .ok (.iconst 0, 1) := by decide +kernel
theorem d_Lv_isSound_63 : decode b_Lv_isSound 63 = .ok (.ireturn, 1) := by decide +kernel
theorem d_Lv_isSound_64 : decode b_Lv_isSound 64 = .ok (.aload_n 0, 1) := by decide +kernel
theorem d_Lv_isSound_65 : decode b_Lv_isSound 65 = .ok (.aload 4, 2) := by decide +kernel
theorem d_Lv_isSound_67 : decode b_Lv_isSound 67 = .ok (.aload_n 1, 1) := by decide +kernel
theorem d_Lv_isSound_68 : decode b_Lv_isSound 68 = .ok (.aload_n 2, 1) := by decide +kernel
theorem d_Lv_isSound_69 : decode b_Lv_isSound 69 = .ok (.invokevirtual 98, 3) := by decide +kernel
theorem d_Lv_isSound_72 : decode b_Lv_isSound 72 = .ok (.ifCond .ne 5, 3) := by decide +kernel
theorem d_Lv_isSound_75 : decode b_Lv_isSound 75 = .ok (.iconst 0, 1) := by decide +kernel
theorem d_Lv_isSound_76 : decode b_Lv_isSound 76 = .ok (.ireturn, 1) := by decide +kernel
theorem d_Lv_isSound_77 : decode b_Lv_isSound 77 = .ok (.iinc 3 1, 3) := by decide +kernel
theorem d_Lv_isSound_80 : decode b_Lv_isSound 80 = .ok (.goto (-78), 3) := by decide +kernel
theorem d_Lv_isSound_83 : decode b_Lv_isSound 83 = .ok (.iconst 1, 1) := by decide +kernel
theorem d_Lv_isSound_84 : decode b_Lv_isSound 84 = .ok (.ireturn, 1) := by decide +kernel
def q_Lv_isSound : List (Nat × j_S) := [(0, j_st (f_psh (.int 0)) 1),
  (1, j_so 0 3 2),
  (2, j_ld 0 3 3),
  (3, j_ld 2 0 4),
  (4, j_gf [5] 3 7),
  (7, j_cv [(10, 12)] 0),
  (10, j_br (f_ic (fun x y => decide (y ≤ x))) 83 13),
  (13, j_ld 2 0 14),
  (14, j_gf [5] 3 17),
  (17, j_ld 0 3 18),
  (18, j_cv [(10, 6)] 1),
  (21, j_cc [9] [] 24),
  (24, j_so 2 4 26),
  (26, j_ld 2 4 28),
  (28, j_ld 2 0 29),
  (29, j_gf [5] 2 32),
  (32, j_cv [(9, 120)] 1),
  (35, j_br (f_if (fun x => decide (¬ x = 0))) 40 38),
  (38, j_st (f_psh (.int 0)) 39),
  (39, j_rt 3),
  (40, j_ld 0 3 41),
  (41, j_br (f_if (fun x => decide (x ≤ 0))) 64 44),
  (44, j_ld 2 0 45),
  (45, j_ld 2 4 47),
  (47, j_cv [(9, 118)] 0),
  (50, j_ld 2 2 51),
  (51, j_cv [(5, 76)] 2),
  (54, j_ld 2 1 55),
  (55, j_ld 2 2 56),
  (56, j_cv [(8, 129)] 1),
  (59, j_br (f_if (fun x => decide (x < 0))) 64 62),
  (62, j_st (f_psh (.int 0)) 63),
  (63, j_rt 3),
  (64, j_ld 2 0 65),
  (65, j_ld 2 4 67),
  (67, j_ld 2 1 68),
  (68, j_ld 2 2 69),
  (69, j_cv [(5, 75)] 3),
  (72, j_br (f_if (fun x => decide (¬ x = 0))) 77 75),
  (75, j_st (f_psh (.int 0)) 76),
  (76, j_rt 3),
  (77, j_ic 3 1 80),
  (80, j_st f_id 2),
  (83, j_st (f_psh (.int 1)) 84),
  (84, j_rt 3)]
def i_Lv_isSound : j_I := (R_Lv, b_Lv_isSound, 5, false, (some .boolean), [])
def e_Lv_isSound : j_E := ((y_Lv_isSound, c_Lv_isSound), i_Lv_isSound, j_tab q_Lv_isSound, [])
theorem o_Lv_isSound (G : j_G) : j_mok G tm e_Lv_isSound := ⟨by decide +kernel, Or.inl ⟨rfl, rfl⟩, rfl, (fun h => by cases h), j_tab_ok (i := i_Lv_isSound) (l := q_Lv_isSound) (j_all_mem ⟨r_iconst d_Lv_isSound_0 (by decide),
  r_istore_n d_Lv_isSound_1 rfl (by decide),
  r_iload_n d_Lv_isSound_2 rfl,
  r_aload_n d_Lv_isSound_3 rfl,
  r_getfield (j_all_mem ⟨⟨_, _, _, rfl, w_Lv, by decide, ⟨_, k_166, Or.inl rfl⟩⟩, trivial⟩) d_Lv_isSound_4,
  r_invV (j_all_mem ⟨⟨⟨_, _, _, rfl, k_345, k_346, k_347⟩, cw_AL_size, by decide, by decide +kernel⟩, trivial⟩) d_Lv_isSound_7,
  r_ic_ge d_Lv_isSound_10 (by decide),
  r_aload_n d_Lv_isSound_13 rfl,
  r_getfield (j_all_mem ⟨⟨_, _, _, rfl, w_Lv, by decide, ⟨_, k_166, Or.inl rfl⟩⟩, trivial⟩) d_Lv_isSound_14,
  r_iload_n d_Lv_isSound_17 rfl,
  r_invV (j_all_mem ⟨⟨⟨_, _, _, rfl, k_349, k_350, k_351⟩, cw_AL_get, by decide, by decide +kernel⟩, trivial⟩) d_Lv_isSound_18,
  r_checkcast k_363 (j_all_mem ⟨⟨_, _, rfl⟩, trivial⟩) (fun c h => by cases h) d_Lv_isSound_21,
  r_astore d_Lv_isSound_24 (by decide),
  r_aload d_Lv_isSound_26,
  r_aload_n d_Lv_isSound_28 rfl,
  r_getfield (j_all_mem ⟨⟨_, _, _, rfl, w_Lv, by decide, ⟨_, k_165, Or.inl rfl⟩⟩, trivial⟩) d_Lv_isSound_29,
  r_invV (j_all_mem ⟨⟨⟨_, _, _, rfl, k_1003, k_1004, k_1005⟩, cw_Tb_usesItsBlocks, by decide, by decide +kernel⟩, trivial⟩) d_Lv_isSound_32,
  r_if_ne d_Lv_isSound_35 (by decide),
  r_iconst d_Lv_isSound_38 (by decide),
  r_zreturn d_Lv_isSound_39 rfl,
  r_iload_n d_Lv_isSound_40 rfl,
  r_if_le d_Lv_isSound_41 (by decide),
  r_aload_n d_Lv_isSound_44 rfl,
  r_aload d_Lv_isSound_45,
  r_invV (j_all_mem ⟨⟨⟨_, _, _, rfl, k_364, k_365, k_366⟩, cw_Tb_start, by decide, by decide +kernel⟩, trivial⟩) d_Lv_isSound_47,
  r_aload_n d_Lv_isSound_50 rfl,
  r_invV (j_all_mem ⟨⟨⟨_, _, _, rfl, k_1011, k_339, k_1386⟩, cw_Lv_load, by decide, by decide +kernel⟩, trivial⟩) d_Lv_isSound_51,
  r_aload_n d_Lv_isSound_54 rfl,
  r_aload_n d_Lv_isSound_55 rfl,
  r_invV (j_all_mem ⟨⟨⟨_, _, _, rfl, k_1012, k_388, k_389⟩, cw_Ve_compareKey, by decide, by decide +kernel⟩, trivial⟩) d_Lv_isSound_56,
  r_if_lt d_Lv_isSound_59 (by decide),
  r_iconst d_Lv_isSound_62 (by decide),
  r_zreturn d_Lv_isSound_63 rfl,
  r_aload_n d_Lv_isSound_64 rfl,
  r_aload d_Lv_isSound_65,
  r_aload_n d_Lv_isSound_67 rfl,
  r_aload_n d_Lv_isSound_68 rfl,
  r_invV (j_all_mem ⟨⟨⟨_, _, _, rfl, k_1013, k_1015, kp_Lv_isWhole⟩, cw_Lv_isWhole, by decide, by decide +kernel⟩, trivial⟩) d_Lv_isSound_69,
  r_if_ne d_Lv_isSound_72 (by decide),
  r_iconst d_Lv_isSound_75 (by decide),
  r_zreturn d_Lv_isSound_76 rfl,
  j_ok_ic d_Lv_isSound_77 rfl (by decide) (by decide),
  r_goto d_Lv_isSound_80 (by decide),
  r_iconst d_Lv_isSound_83 (by decide),
  r_zreturn d_Lv_isSound_84 rfl, trivial⟩), (fun q h => by cases h), (fun _ => rfl)⟩
theorem d_Lv_isWhole_0 : decode b_Lv_isWhole 0 = .ok (.lconst 0, 1) := by decide +kernel
theorem d_Lv_isWhole_1 : decode b_Lv_isWhole 1 = .ok (.lstore 4, 2) := by decide +kernel
theorem d_Lv_isWhole_3 : decode b_Lv_isWhole 3 = .ok (.iconst 0, 1) := by decide +kernel
theorem d_Lv_isWhole_4 : decode b_Lv_isWhole 4 = .ok (.istore 6, 2) := by decide +kernel
theorem d_Lv_isWhole_6 : decode b_Lv_isWhole 6 = .ok (.iload 6, 2) := by decide +kernel
theorem d_Lv_isWhole_8 : decode b_Lv_isWhole 8 = .ok (.aload_n 1, 1) := by decide +kernel
theorem d_Lv_isWhole_9 : decode b_Lv_isWhole 9 = .ok (.invokevirtual 85, 3) := by decide +kernel
theorem d_Lv_isWhole_12 : decode b_Lv_isWhole 12 = .ok (.if_icmp .ge 49, 3) := by decide +kernel
theorem d_Lv_isWhole_15 : decode b_Lv_isWhole 15 = .ok (.aload_n 0, 1) := by decide +kernel
theorem d_Lv_isWhole_16 : decode b_Lv_isWhole 16 = .ok (.aload_n 1, 1) := by decide +kernel
theorem d_Lv_isWhole_17 : decode b_Lv_isWhole 17 = .ok (.invokevirtual 40, 3) := by decide +kernel
theorem d_Lv_isWhole_20 : decode b_Lv_isWhole 20 = .ok (.iload 6, 2) := by decide +kernel
theorem d_Lv_isWhole_22 : decode b_Lv_isWhole 22 = .ok (.iadd, 1) := by decide +kernel
theorem d_Lv_isWhole_23 : decode b_Lv_isWhole 23 = .ok (.aload_n 3, 1) := by decide +kernel
theorem d_Lv_isWhole_24 : decode b_Lv_isWhole 24 = .ok (.invokevirtual 91, 3) := by decide +kernel
theorem d_Lv_isWhole_27 : decode b_Lv_isWhole 27 = .ok (.iload 6, 2) := by decide +kernel
theorem d_Lv_isWhole_29 : decode b_Lv_isWhole 29 = .ok (.ifCond .le 13, 3) := by decide +kernel
theorem d_Lv_isWhole_32 : decode b_Lv_isWhole 32 = .ok (.aload_n 2, 1) := by decide +kernel
theorem d_Lv_isWhole_33 : decode b_Lv_isWhole 33 = .ok (.aload_n 3, 1) := by decide +kernel
theorem d_Lv_isWhole_34 : decode b_Lv_isWhole 34 = .ok (.invokevirtual 102, 3) := by decide +kernel
theorem d_Lv_isWhole_37 : decode b_Lv_isWhole 37 = .ok (.ifCond .ne 5, 3) := by decide +kernel
theorem d_Lv_isWhole_40 : decode b_Lv_isWhole 40 = .ok (.iconst 0, 1) := by decide +kernel
theorem d_Lv_isWhole_41 : decode b_Lv_isWhole 41 = .ok (.ireturn, 1) := by decide +kernel
theorem d_Lv_isWhole_42 : decode b_Lv_isWhole 42 = .ok (.aload_n 3, 1) := by decide +kernel
theorem d_Lv_isWhole_43 : decode b_Lv_isWhole 43 = .ok (.lload 4, 2) := by decide +kernel
theorem d_Lv_isWhole_45 : decode b_Lv_isWhole 45 = .ok (.invokevirtual 106, 3) := by decide +kernel
theorem d_Lv_isWhole_48 : decode b_Lv_isWhole 48 = .ok (.lstore 4, 2) := by decide +kernel
theorem d_Lv_isWhole_50 : decode b_Lv_isWhole 50 = .ok (.aload_n 2, 1) := by decide +kernel
theorem d_Lv_isWhole_51 : decode b_Lv_isWhole 51 = .ok (.aload_n 3, 1) := by decide +kernel
theorem d_Lv_isWhole_52 : decode b_Lv_isWhole 52 = .ok (.invokevirtual 110, 3) := by decide +kernel
theorem d_Lv_isWhole_55 : decode b_Lv_isWhole 55 = .ok (.iinc 6 1, 3) := by decide +kernel
theorem d_Lv_isWhole_58 : decode b_Lv_isWhole 58 = .ok (.goto (-52), 3) := by decide +kernel
theorem d_Lv_isWhole_61 : decode b_Lv_isWhole 61 = .ok (.lload 4, 2) := by decide +kernel
theorem d_Lv_isWhole_63 : decode b_Lv_isWhole 63 = .ok (.aload_n 1, 1) := by decide +kernel
theorem d_Lv_isWhole_64 : decode b_Lv_isWhole 64 = .ok (.invokevirtual 114, 3) := by decide +kernel
theorem d_Lv_isWhole_67 : decode b_Lv_isWhole 67 = .ok (.lcmp, 1) := by decide +kernel
theorem d_Lv_isWhole_68 : decode b_Lv_isWhole 68 = .ok (.ifCond .ne 7, 3) := by decide +kernel
theorem d_Lv_isWhole_71 : decode b_Lv_isWhole 71 = .ok (.iconst 1, 1) := by decide +kernel
theorem d_Lv_isWhole_72 : decode b_Lv_isWhole 72 = .ok (.goto 4, 3) := by decide +kernel
theorem d_Lv_isWhole_75 : decode b_Lv_isWhole 75 = .ok (.iconst 0, 1) := by decide +kernel
theorem d_Lv_isWhole_76 : decode b_Lv_isWhole 76 = .ok (.ireturn, 1) := by decide +kernel
def q_Lv_isWhole : List (Nat × j_S) := [(0, j_st (f_psh (.long 0)) 1),
  (1, j_so 1 4 3),
  (3, j_st (f_psh (.int 0)) 4),
  (4, j_so 0 6 6),
  (6, j_ld 0 6 8),
  (8, j_ld 2 1 9),
  (9, j_cv [(9, 114)] 0),
  (12, j_br (f_ic (fun x y => decide (y ≤ x))) 61 15),
  (15, j_ld 2 0 16),
  (16, j_ld 2 1 17),
  (17, j_cv [(9, 118)] 0),
  (20, j_ld 0 6 22),
  (22, j_st (f_ii (fun a b => a + b)) 23),
  (23, j_ld 2 3 24),
  (24, j_cv [(5, 76)] 2),
  (27, j_ld 0 6 29),
  (29, j_br (f_if (fun x => decide (x ≤ 0))) 42 32),
  (32, j_ld 2 2 33),
  (33, j_ld 2 3 34),
  (34, j_cv [(8, 134)] 1),
  (37, j_br (f_if (fun x => decide (¬ x = 0))) 42 40),
  (40, j_st (f_psh (.int 0)) 41),
  (41, j_rt 3),
  (42, j_ld 2 3 43),
  (43, j_ld 1 4 45),
  (45, j_cv [(8, 127)] 1),
  (48, j_so 1 4 50),
  (50, j_ld 2 2 51),
  (51, j_ld 2 3 52),
  (52, j_cv [(8, 130)] 1),
  (55, j_ic 6 1 58),
  (58, j_st f_id 6),
  (61, j_ld 1 4 63),
  (63, j_ld 2 1 64),
  (64, j_cv [(9, 119)] 0),
  (67, j_st (f_cmp) 68),
  (68, j_br (f_if (fun x => decide (¬ x = 0))) 75 71),
  (71, j_st (f_psh (.int 1)) 72),
  (72, j_st f_id 76),
  (75, j_st (f_psh (.int 0)) 76),
  (76, j_rt 3)]
def i_Lv_isWhole : j_I := (R_Lv, b_Lv_isWhole, 7, false, (some .boolean), [])
def e_Lv_isWhole : j_E := ((y_Lv_isWhole, c_Lv_isWhole), i_Lv_isWhole, j_tab q_Lv_isWhole, [])
theorem o_Lv_isWhole (G : j_G) : j_mok G tm e_Lv_isWhole := ⟨by decide +kernel, Or.inl ⟨rfl, rfl⟩, rfl, (fun h => by cases h), j_tab_ok (i := i_Lv_isWhole) (l := q_Lv_isWhole) (j_all_mem ⟨r_lconst d_Lv_isWhole_0 (by decide),
  r_lstore d_Lv_isWhole_1 (by decide),
  r_iconst d_Lv_isWhole_3 (by decide),
  r_istore d_Lv_isWhole_4 (by decide),
  r_iload d_Lv_isWhole_6,
  r_aload_n d_Lv_isWhole_8 rfl,
  r_invV (j_all_mem ⟨⟨⟨_, _, _, rfl, k_629, k_630, k_631⟩, cw_Tb_count, by decide, by decide +kernel⟩, trivial⟩) d_Lv_isWhole_9,
  r_ic_ge d_Lv_isWhole_12 (by decide),
  r_aload_n d_Lv_isWhole_15 rfl,
  r_aload_n d_Lv_isWhole_16 rfl,
  r_invV (j_all_mem ⟨⟨⟨_, _, _, rfl, k_364, k_365, k_366⟩, cw_Tb_start, by decide, by decide +kernel⟩, trivial⟩) d_Lv_isWhole_17,
  r_iload d_Lv_isWhole_20,
  r_iadd d_Lv_isWhole_22,
  r_aload_n d_Lv_isWhole_23 rfl,
  r_invV (j_all_mem ⟨⟨⟨_, _, _, rfl, k_1011, k_339, k_1386⟩, cw_Lv_load, by decide, by decide +kernel⟩, trivial⟩) d_Lv_isWhole_24,
  r_iload d_Lv_isWhole_27,
  r_if_le d_Lv_isWhole_29 (by decide),
  r_aload_n d_Lv_isWhole_32 rfl,
  r_aload_n d_Lv_isWhole_33 rfl,
  r_invV (j_all_mem ⟨⟨⟨_, _, _, rfl, k_1017, k_384, k_385⟩, cw_Ve_isBefore, by decide, by decide +kernel⟩, trivial⟩) d_Lv_isWhole_34,
  r_if_ne d_Lv_isWhole_37 (by decide),
  r_iconst d_Lv_isWhole_40 (by decide),
  r_zreturn d_Lv_isWhole_41 rfl,
  r_aload_n d_Lv_isWhole_42 rfl,
  r_lload d_Lv_isWhole_43,
  r_invV (j_all_mem ⟨⟨⟨_, _, _, rfl, k_1018, k_594, k_595⟩, cw_Ve_addTo, by decide, by decide +kernel⟩, trivial⟩) d_Lv_isWhole_45,
  r_lstore d_Lv_isWhole_48 (by decide),
  r_aload_n d_Lv_isWhole_50 rfl,
  r_aload_n d_Lv_isWhole_51 rfl,
  r_invV (j_all_mem ⟨⟨⟨_, _, _, rfl, k_1019, k_436, k_437⟩, cw_Ve_copy, by decide, by decide +kernel⟩, trivial⟩) d_Lv_isWhole_52,
  j_ok_ic d_Lv_isWhole_55 rfl (by decide) (by decide),
  r_goto d_Lv_isWhole_58 (by decide),
  r_lload d_Lv_isWhole_61,
  r_aload_n d_Lv_isWhole_63 rfl,
  r_invV (j_all_mem ⟨⟨⟨_, _, _, rfl, k_1020, k_1021, k_1022⟩, cw_Tb_sum, by decide, by decide +kernel⟩, trivial⟩) d_Lv_isWhole_64,
  r_lcmp d_Lv_isWhole_67,
  r_if_ne d_Lv_isWhole_68 (by decide),
  r_iconst d_Lv_isWhole_71 (by decide),
  r_goto d_Lv_isWhole_72 (by decide),
  r_iconst d_Lv_isWhole_75 (by decide),
  r_zreturn d_Lv_isWhole_76 rfl, trivial⟩), (fun q h => by cases h), (fun _ => rfl)⟩
theorem d_Lv_load_0 : decode b_Lv_load 0 = .ok (.aload_n 0, 1) := by decide +kernel
theorem d_Lv_load_1 : decode b_Lv_load 1 = .ok (.iload_n 1, 1) := by decide +kernel
theorem d_Lv_load_2 : decode b_Lv_load 2 = .ok (.invokevirtual 26, 3) := by decide +kernel
theorem d_Lv_load_5 : decode b_Lv_load 5 = .ok (.istore_n 3, 1) := by decide +kernel
theorem d_Lv_load_6 : decode b_Lv_load 6 = .ok (.iload_n 3, 1) := by decide +kernel
theorem d_Lv_load_7 : decode b_Lv_load 7 = .ok (.ifCond .lt 59, 3) := by decide +kernel
theorem d_Lv_load_10 : decode b_Lv_load 10 = .ok (.iload_n 3, 1) := by decide +kernel
theorem d_Lv_load_11 : decode b_Lv_load 11 = .ok (.aload_n 0, 1) := by decide +kernel
theorem d_Lv_load_12 : decode b_Lv_load 12 = .ok (.getfield 12, 3) := by decide +kernel
theorem d_Lv_load_15 : decode b_Lv_load 15 = .ok (.invokevirtual 30, 3) := by decide +kernel
theorem d_Lv_load_18 : decode b_Lv_load 18 = .ok (.if_icmp .ge 48, 3) := by decide +kernel
theorem d_Lv_load_21 : decode b_Lv_load 21 = .ok (.aload_n 0, 1) := by decide +kernel
theorem d_Lv_load_22 : decode b_Lv_load 22 = .ok (.getfield 12, 3) := by decide +kernel
theorem d_Lv_load_25 : decode b_Lv_load 25 = .ok (.iload_n 3, 1) := by decide +kernel
theorem d_Lv_load_26 : decode b_Lv_load 26 = .ok (.invokevirtual 34, 3) := by decide +kernel
theorem d_Lv_load_29 : decode b_Lv_load 29 = .ok (.checkcast 38, 3) := by decide +kernel
theorem d_Lv_load_32 : decode b_Lv_load 32 = .ok (.astore 4, 2) := by decide +kernel
theorem d_Lv_load_34 : decode b_Lv_load 34 = .ok (.iload_n 1, 1) := by decide +kernel
theorem d_Lv_load_35 : decode b_Lv_load 35 = .ok (.aload 4, 2) := by decide +kernel
theorem d_Lv_load_37 : decode b_Lv_load 37 = .ok (.invokevirtual 40, 3) := by decide +kernel
theorem d_Lv_load_40 : decode b_Lv_load 40 = .ok (.isub, 1) := by decide +kernel
theorem d_Lv_load_41 : decode b_Lv_load 41 = .ok (.istore 5, 2) := by decide +kernel
theorem d_Lv_load_43 : decode b_Lv_load 43 = .ok (.aload_n 0, 1) := by decide +kernel
theorem d_Lv_load_44 : decode b_Lv_load 44 = .ok (.getfield 18, 3) := by decide +kernel
theorem d_Lv_load_47 : decode b_Lv_load 47 = .ok (.aload 4, 2) := by decide +kernel
theorem d_Lv_load_49 : decode b_Lv_load 49 = .ok (.iload 5, 2) := by decide +kernel
theorem d_Lv_load_51 : decode b_Lv_load 51 = .ok (.invokevirtual 43, 3) := by decide +kernel
theorem d_Lv_load_54 : decode b_Lv_load 54 = .ok (.iload 5, 2) := by decide +kernel
theorem d_Lv_load_56 : decode b_Lv_load 56 = .ok (.bipush 8, 2) := by decide +kernel
theorem d_Lv_load_58 : decode b_Lv_load 58 = .ok (.irem, 1) := by decide +kernel
theorem d_Lv_load_59 : decode b_Lv_load 59 = .ok (.bipush 6, 2) := by decide +kernel
theorem d_Lv_load_61 : decode b_Lv_load 61 = .ok (.imul, 1) := by decide +kernel
theorem d_Lv_load_62 : decode b_Lv_load 62 = .ok (.aload_n 2, 1) := by decide +kernel
theorem d_Lv_load_63 : decode b_Lv_load 63 = .ok (.invokevirtual 46, 3) := by decide +kernel
theorem d_Lv_load_66 : decode b_Lv_load 66 = .ok (.return_, 1) := by decide +kernel
def q_Lv_load : List (Nat × j_S) := [(0, j_ld 2 0 1),
  (1, j_ld 0 1 2),
  (2, j_cv [(5, 81)] 1),
  (5, j_so 0 3 6),
  (6, j_ld 0 3 7),
  (7, j_br (f_if (fun x => decide (x < 0))) 66 10),
  (10, j_ld 0 3 11),
  (11, j_ld 2 0 12),
  (12, j_gf [5] 3 15),
  (15, j_cv [(10, 12)] 0),
  (18, j_br (f_ic (fun x y => decide (y ≤ x))) 66 21),
  (21, j_ld 2 0 22),
  (22, j_gf [5] 3 25),
  (25, j_ld 0 3 26),
  (26, j_cv [(10, 6)] 1),
  (29, j_cc [9] [] 32),
  (32, j_so 2 4 34),
  (34, j_ld 0 1 35),
  (35, j_ld 2 4 37),
  (37, j_cv [(9, 118)] 0),
  (40, j_st (f_ii (fun a b => a - b)) 41),
  (41, j_so 0 5 43),
  (43, j_ld 2 0 44),
  (44, j_gf [5] 2 47),
  (47, j_ld 2 4 49),
  (49, j_ld 0 5 51),
  (51, j_cv [(9, 113)] 1),
  (54, j_ld 0 5 56),
  (56, j_st (f_psh (.int 8)) 58),
  (58, j_st (f_iin (fun a b => a - a / b * b)) 59),
  (59, j_st (f_psh (.int 6)) 61),
  (61, j_st (f_ii (fun a b => a * b)) 62),
  (62, j_ld 2 2 63),
  (63, j_cv [(3, 28)] 3),
  (66, j_rv)]
def i_Lv_load : j_I := (R_Lv, b_Lv_load, 6, false, none, [])
def e_Lv_load : j_E := ((y_Lv_load, c_Lv_load), i_Lv_load, j_tab q_Lv_load, [])
theorem o_Lv_load (G : j_G) : j_mok G tm e_Lv_load := ⟨by decide +kernel, Or.inl ⟨rfl, rfl⟩, rfl, (fun h => by cases h), j_tab_ok (i := i_Lv_load) (l := q_Lv_load) (j_all_mem ⟨r_aload_n d_Lv_load_0 rfl,
  r_iload_n d_Lv_load_1 rfl,
  r_invV (j_all_mem ⟨⟨⟨_, _, _, rfl, k_341, k_343, kp_Lv_tableWith⟩, cw_Lv_tableWith, by decide, by decide +kernel⟩, trivial⟩) d_Lv_load_2,
  r_istore_n d_Lv_load_5 rfl (by decide),
  r_iload_n d_Lv_load_6 rfl,
  r_if_lt d_Lv_load_7 (by decide),
  r_iload_n d_Lv_load_10 rfl,
  r_aload_n d_Lv_load_11 rfl,
  r_getfield (j_all_mem ⟨⟨_, _, _, rfl, w_Lv, by decide, ⟨_, k_166, Or.inl rfl⟩⟩, trivial⟩) d_Lv_load_12,
  r_invV (j_all_mem ⟨⟨⟨_, _, _, rfl, k_345, k_346, k_347⟩, cw_AL_size, by decide, by decide +kernel⟩, trivial⟩) d_Lv_load_15,
  r_ic_ge d_Lv_load_18 (by decide),
  r_aload_n d_Lv_load_21 rfl,
  r_getfield (j_all_mem ⟨⟨_, _, _, rfl, w_Lv, by decide, ⟨_, k_166, Or.inl rfl⟩⟩, trivial⟩) d_Lv_load_22,
  r_iload_n d_Lv_load_25 rfl,
  r_invV (j_all_mem ⟨⟨⟨_, _, _, rfl, k_349, k_350, k_351⟩, cw_AL_get, by decide, by decide +kernel⟩, trivial⟩) d_Lv_load_26,
  r_checkcast k_363 (j_all_mem ⟨⟨_, _, rfl⟩, trivial⟩) (fun c h => by cases h) d_Lv_load_29,
  r_astore d_Lv_load_32 (by decide),
  r_iload_n d_Lv_load_34 rfl,
  r_aload d_Lv_load_35,
  r_invV (j_all_mem ⟨⟨⟨_, _, _, rfl, k_364, k_365, k_366⟩, cw_Tb_start, by decide, by decide +kernel⟩, trivial⟩) d_Lv_load_37,
  r_isub d_Lv_load_40,
  r_istore d_Lv_load_41 (by decide),
  r_aload_n d_Lv_load_43 rfl,
  r_getfield (j_all_mem ⟨⟨_, _, _, rfl, w_Lv, by decide, ⟨_, k_165, Or.inl rfl⟩⟩, trivial⟩) d_Lv_load_44,
  r_aload d_Lv_load_47,
  r_iload d_Lv_load_49,
  r_invV (j_all_mem ⟨⟨⟨_, _, _, rfl, k_368, k_369, k_370⟩, cw_Tb_blockOf, by decide, by decide +kernel⟩, trivial⟩) d_Lv_load_51,
  r_iload d_Lv_load_54,
  r_bipush d_Lv_load_56 (by decide),
  r_irem d_Lv_load_58,
  r_bipush d_Lv_load_59 (by decide),
  r_imul d_Lv_load_61,
  r_aload_n d_Lv_load_62 rfl,
  r_invV (j_all_mem ⟨⟨⟨_, _, _, rfl, k_372, k_373, k_374⟩, cw_Ch_read, by decide, by decide +kernel⟩, trivial⟩) d_Lv_load_63,
  r_return d_Lv_load_66 rfl, trivial⟩), (fun q h => by cases h), (fun _ => rfl)⟩
theorem d_Lv_remove_0 : decode b_Lv_remove 0 = .ok (.iload_n 2, 1) := by decide +kernel
theorem d_Lv_remove_1 : decode b_Lv_remove 1 = .ok (.aload_n 0, 1) := by decide +kernel
theorem d_Lv_remove_2 : decode b_Lv_remove 2 = .ok (.getfield 12, 3) := by decide +kernel
theorem d_Lv_remove_5 : decode b_Lv_remove 5 = .ok (.invokevirtual 30, 3) := by decide +kernel
theorem d_Lv_remove_8 : decode b_Lv_remove 8 = .ok (.invokestatic 62, 3) := by decide +kernel
theorem d_Lv_remove_11 : decode b_Lv_remove 11 = .ok (.iconst 1, 1) := by decide +kernel
theorem d_Lv_remove_12 : decode b_Lv_remove 12 = .ok (.isub, 1) := by decide +kernel
theorem d_Lv_remove_13 : decode b_Lv_remove 13 = .ok (.istore_n 3, 1) := by decide +kernel
theorem d_Lv_remove_14 : decode b_Lv_remove 14 = .ok (.iload_n 3, 1) := by decide +kernel
theorem d_Lv_remove_15 : decode b_Lv_remove 15 = .ok (.iload_n 1, 1) := by decide +kernel
theorem d_Lv_remove_16 : decode b_Lv_remove 16 = .ok (.if_icmp .lt 40, 3) := by decide +kernel
theorem d_Lv_remove_19 : decode b_Lv_remove 19 = .ok (.iload_n 3, 1) := by decide +kernel
theorem d_Lv_remove_20 : decode b_Lv_remove 20 = .ok (.ifCond .lt 36, 3) := by decide +kernel
theorem d_Lv_remove_23 : decode b_Lv_remove 23 = .ok (.aload_n 0, 1) := by decide +kernel
theorem d_Lv_remove_24 : decode b_Lv_remove 24 = .ok (.getfield 12, 3) := by decide +kernel
theorem d_Lv_remove_27 : decode b_Lv_remove 27 = .ok (.iload_n 3, 1) := by decide +kernel
theorem d_Lv_remove_28 : decode b_Lv_remove 28 = .ok (.invokevirtual 34, 3) := by decide +kernel
theorem d_Lv_remove_31 : decode b_Lv_remove 31 = .ok (.checkcast 38, 3) := by decide +kernel
theorem d_Lv_remove_34 : decode b_Lv_remove 34 = .ok (.aload_n 0, 1) := by decide +kernel
theorem d_Lv_remove_35 : decode b_Lv_remove 35 = .ok (.getfield 18, 3) := by decide +kernel
theorem d_Lv_remove_38 : decode b_Lv_remove 38 = .ok (.invokevirtual 68, 3) := by decide +kernel
theorem d_Lv_remove_41 : decode b_Lv_remove 41 = .ok (.aload_n 0, 1) := by decide +kernel
theorem d_Lv_remove_42 : decode b_Lv_remove 42 = .ok (.getfield 12, 3) := by decide +kernel
theorem d_Lv_remove_45 : decode b_Lv_remove 45 = .ok (.iload_n 3, 1) := by decide +kernel
theorem d_Lv_remove_46 : decode b_Lv_remove 46 = .ok (.invokevirtual 72, 3) := by decide +kernel
theorem d_Lv_remove_49 : decode b_Lv_remove 49 = .ok (.pop, 1) := by decide +kernel
theorem d_Lv_remove_50 : decode b_Lv_remove 50 = .ok (.iinc 3 (-1), 3) := by decide +kernel
theorem d_Lv_remove_53 : decode b_Lv_remove 53 = .ok (.goto (-39), 3) := by decide +kernel
theorem d_Lv_remove_56 : decode b_Lv_remove 56 = .ok (.aload_n 0, 1) := by decide +kernel
theorem d_Lv_remove_57 : decode b_Lv_remove 57 = .ok (.invokevirtual 75, 3) := by decide +kernel
theorem d_Lv_remove_60 : decode b_Lv_remove 60 = .ok (.return_, 1) := by decide +kernel
def q_Lv_remove : List (Nat × j_S) := [(0, j_ld 0 2 1),
  (1, j_ld 2 0 2),
  (2, j_gf [5] 3 5),
  (5, j_cv [(10, 12)] 0),
  (8, j_mn 11),
  (11, j_st (f_psh (.int 1)) 12),
  (12, j_st (f_ii (fun a b => a - b)) 13),
  (13, j_so 0 3 14),
  (14, j_ld 0 3 15),
  (15, j_ld 0 1 16),
  (16, j_br (f_ic (fun x y => decide (x < y))) 56 19),
  (19, j_ld 0 3 20),
  (20, j_br (f_if (fun x => decide (x < 0))) 56 23),
  (23, j_ld 2 0 24),
  (24, j_gf [5] 3 27),
  (27, j_ld 0 3 28),
  (28, j_cv [(10, 6)] 1),
  (31, j_cc [9] [] 34),
  (34, j_ld 2 0 35),
  (35, j_gf [5] 2 38),
  (38, j_cv [(9, 116)] 1),
  (41, j_ld 2 0 42),
  (42, j_gf [5] 3 45),
  (45, j_ld 0 3 46),
  (46, j_cv [(10, 11)] 1),
  (49, j_st (f_pop) 50),
  (50, j_ic 3 (-1) 53),
  (53, j_st f_id 14),
  (56, j_ld 2 0 57),
  (57, j_cv [(5, 78)] 0),
  (60, j_rv)]
def i_Lv_remove : j_I := (R_Lv, b_Lv_remove, 4, false, none, [])
def e_Lv_remove : j_E := ((y_Lv_remove, c_Lv_remove), i_Lv_remove, j_tab q_Lv_remove, [])
theorem o_Lv_remove (G : j_G) : j_mok G tm e_Lv_remove := ⟨by decide +kernel, Or.inl ⟨rfl, rfl⟩, rfl, (fun h => by cases h), j_tab_ok (i := i_Lv_remove) (l := q_Lv_remove) (j_all_mem ⟨r_iload_n d_Lv_remove_0 rfl,
  r_aload_n d_Lv_remove_1 rfl,
  r_getfield (j_all_mem ⟨⟨_, _, _, rfl, w_Lv, by decide, ⟨_, k_166, Or.inl rfl⟩⟩, trivial⟩) d_Lv_remove_2,
  r_invV (j_all_mem ⟨⟨⟨_, _, _, rfl, k_345, k_346, k_347⟩, cw_AL_size, by decide, by decide +kernel⟩, trivial⟩) d_Lv_remove_5,
  r_mmin k_603 k_498 k_27 k_499 d_Lv_remove_8,
  r_iconst d_Lv_remove_11 (by decide),
  r_isub d_Lv_remove_12,
  r_istore_n d_Lv_remove_13 rfl (by decide),
  r_iload_n d_Lv_remove_14 rfl,
  r_iload_n d_Lv_remove_15 rfl,
  r_ic_lt d_Lv_remove_16 (by decide),
  r_iload_n d_Lv_remove_19 rfl,
  r_if_lt d_Lv_remove_20 (by decide),
  r_aload_n d_Lv_remove_23 rfl,
  r_getfield (j_all_mem ⟨⟨_, _, _, rfl, w_Lv, by decide, ⟨_, k_166, Or.inl rfl⟩⟩, trivial⟩) d_Lv_remove_24,
  r_iload_n d_Lv_remove_27 rfl,
  r_invV (j_all_mem ⟨⟨⟨_, _, _, rfl, k_349, k_350, k_351⟩, cw_AL_get, by decide, by decide +kernel⟩, trivial⟩) d_Lv_remove_28,
  r_checkcast k_363 (j_all_mem ⟨⟨_, _, rfl⟩, trivial⟩) (fun c h => by cases h) d_Lv_remove_31,
  r_aload_n d_Lv_remove_34 rfl,
  r_getfield (j_all_mem ⟨⟨_, _, _, rfl, w_Lv, by decide, ⟨_, k_165, Or.inl rfl⟩⟩, trivial⟩) d_Lv_remove_35,
  r_invV (j_all_mem ⟨⟨⟨_, _, _, rfl, k_604, k_605, k_606⟩, cw_Tb_release, by decide, by decide +kernel⟩, trivial⟩) d_Lv_remove_38,
  r_aload_n d_Lv_remove_41 rfl,
  r_getfield (j_all_mem ⟨⟨_, _, _, rfl, w_Lv, by decide, ⟨_, k_166, Or.inl rfl⟩⟩, trivial⟩) d_Lv_remove_42,
  r_iload_n d_Lv_remove_45 rfl,
  r_invV (j_all_mem ⟨⟨⟨_, _, _, rfl, k_612, k_613, k_614⟩, cw_AL_remove, by decide, by decide +kernel⟩, trivial⟩) d_Lv_remove_46,
  r_pop d_Lv_remove_49,
  j_ok_ic d_Lv_remove_50 rfl (by decide) (by decide),
  r_goto d_Lv_remove_53 (by decide),
  r_aload_n d_Lv_remove_56 rfl,
  r_invV (j_all_mem ⟨⟨⟨_, _, _, rfl, k_621, k_623, kp_Lv_renumber⟩, cw_Lv_renumber, by decide, by decide +kernel⟩, trivial⟩) d_Lv_remove_57,
  r_return d_Lv_remove_60 rfl, trivial⟩), (fun q h => by cases h), (fun _ => rfl)⟩
theorem d_Lv_renumber_0 : decode b_Lv_renumber 0 = .ok (.aload_n 0, 1) := by decide +kernel
theorem d_Lv_renumber_1 : decode b_Lv_renumber 1 = .ok (.iconst 0, 1) := by decide +kernel
theorem d_Lv_renumber_2 : decode b_Lv_renumber 2 = .ok (.putfield 22, 3) := by decide +kernel
theorem d_Lv_renumber_5 : decode b_Lv_renumber 5 = .ok (.iconst 0, 1) := by decide +kernel
theorem d_Lv_renumber_6 : decode b_Lv_renumber 6 = .ok (.istore_n 1, 1) := by decide +kernel
theorem d_Lv_renumber_7 : decode b_Lv_renumber 7 = .ok (.iload_n 1, 1) := by decide +kernel
theorem d_Lv_renumber_8 : decode b_Lv_renumber 8 = .ok (.aload_n 0, 1) := by decide +kernel
theorem d_Lv_renumber_9 : decode b_Lv_renumber 9 = .ok (.getfield 12, 3) := by decide +kernel
theorem d_Lv_renumber_12 : decode b_Lv_renumber 12 = .ok (.invokevirtual 30, 3) := by decide +kernel
theorem d_Lv_renumber_15 : decode b_Lv_renumber 15 = .ok (.if_icmp .ge 50, 3) := by decide +kernel
theorem d_Lv_renumber_18 : decode b_Lv_renumber 18 = .ok (.aload_n 0, 1) := by decide +kernel
theorem d_Lv_renumber_19 : decode b_Lv_renumber 19 = .ok (.getfield 12, 3) := by decide +kernel
theorem d_Lv_renumber_22 : decode b_Lv_renumber 22 = .ok (.iload_n 1, 1) := by decide +kernel
theorem d_Lv_renumber_23 : decode b_Lv_renumber 23 = .ok (.invokevirtual 34, 3) := by decide +kernel
theorem d_Lv_renumber_26 : decode b_Lv_renumber 26 = .ok (.checkcast 38, 3) := by decide +kernel
theorem d_Lv_renumber_29 : decode b_Lv_renumber 29 = .ok (.aload_n 0, 1) := by decide +kernel
theorem d_Lv_renumber_30 : decode b_Lv_renumber 30 = .ok (.getfield 22, 3) := by decide +kernel
theorem d_Lv_renumber_33 : decode b_Lv_renumber 33 = .ok (.invokevirtual 82, 3) := by decide +kernel
theorem d_Lv_renumber_36 : decode b_Lv_renumber 36 = .ok (.aload_n 0, 1) := by decide +kernel
theorem d_Lv_renumber_37 : decode b_Lv_renumber 37 = .ok (.dup, 1) := by decide +kernel
theorem d_Lv_renumber_38 : decode b_Lv_renumber 38 = .ok (.getfield 22, 3) := by decide +kernel
theorem d_Lv_renumber_41 : decode b_Lv_renumber 41 = .ok (.aload_n 0, 1) := by decide +kernel
theorem d_Lv_renumber_42 : decode b_Lv_renumber 42 = .ok (.getfield 12, 3) := by decide +kernel
theorem d_Lv_renumber_45 : decode b_Lv_renumber 45 = .ok (.iload_n 1, 1) := by decide +kernel
theorem d_Lv_renumber_46 : decode b_Lv_renumber 46 = .ok (.invokevirtual 34, 3) := by decide +kernel
theorem d_Lv_renumber_49 : decode b_Lv_renumber 49 = .ok (.checkcast 38, 3) := by decide +kernel
theorem d_Lv_renumber_52 : decode b_Lv_renumber 52 = .ok (.invokevirtual 85, 3) := by decide +kernel
theorem d_Lv_renumber_55 : decode b_Lv_renumber 55 = .ok (.iadd, 1) := by decide +kernel
theorem d_Lv_renumber_56 : decode b_Lv_renumber 56 = .ok (.putfield 22, 3) := by decide +kernel
theorem d_Lv_renumber_59 : decode b_Lv_renumber 59 = .ok (.iinc 1 1, 3) := by decide +kernel
theorem d_Lv_renumber_62 : decode b_Lv_renumber 62 = .ok (.goto (-55), 3) := by decide +kernel
theorem d_Lv_renumber_65 : decode b_Lv_renumber 65 = .ok (.return_, 1) := by decide +kernel
def q_Lv_renumber : List (Nat × j_S) := [(0, j_ld 2 0 1),
  (1, j_st (f_psh (.int 0)) 2),
  (2, j_pf [5] 1 0 5),
  (5, j_st (f_psh (.int 0)) 6),
  (6, j_so 0 1 7),
  (7, j_ld 0 1 8),
  (8, j_ld 2 0 9),
  (9, j_gf [5] 3 12),
  (12, j_cv [(10, 12)] 0),
  (15, j_br (f_ic (fun x y => decide (y ≤ x))) 65 18),
  (18, j_ld 2 0 19),
  (19, j_gf [5] 3 22),
  (22, j_ld 0 1 23),
  (23, j_cv [(10, 6)] 1),
  (26, j_cc [9] [] 29),
  (29, j_ld 2 0 30),
  (30, j_gf [5] 1 33),
  (33, j_cv [(9, 117)] 1),
  (36, j_ld 2 0 37),
  (37, j_st (f_dup) 38),
  (38, j_gf [5] 1 41),
  (41, j_ld 2 0 42),
  (42, j_gf [5] 3 45),
  (45, j_ld 0 1 46),
  (46, j_cv [(10, 6)] 1),
  (49, j_cc [9] [] 52),
  (52, j_cv [(9, 114)] 0),
  (55, j_st (f_ii (fun a b => a + b)) 56),
  (56, j_pf [5] 1 0 59),
  (59, j_ic 1 1 62),
  (62, j_st f_id 7),
  (65, j_rv)]
def i_Lv_renumber : j_I := (R_Lv, b_Lv_renumber, 2, false, none, [])
def e_Lv_renumber : j_E := ((y_Lv_renumber, c_Lv_renumber), i_Lv_renumber, j_tab q_Lv_renumber, [])
theorem o_Lv_renumber (G : j_G) : j_mok G tm e_Lv_renumber := ⟨by decide +kernel, Or.inl ⟨rfl, rfl⟩, rfl, (fun h => by cases h), j_tab_ok (i := i_Lv_renumber) (l := q_Lv_renumber) (j_all_mem ⟨r_aload_n d_Lv_renumber_0 rfl,
  r_iconst d_Lv_renumber_1 (by decide),
  r_putfield (fin := false) (j_all_mem ⟨⟨_, _, _, t_Lv, _, rfl, w_Lv, t_Lv_ok, n_Lv, by decide, rfl, t_Lv_ok 1 (by decide), Or.inl ⟨rfl, rfl⟩, ⟨_, k_167, Or.inl rfl⟩, (fun h => by cases h)⟩, trivial⟩) (fun h => by cases h) d_Lv_renumber_2,
  r_iconst d_Lv_renumber_5 (by decide),
  r_istore_n d_Lv_renumber_6 rfl (by decide),
  r_iload_n d_Lv_renumber_7 rfl,
  r_aload_n d_Lv_renumber_8 rfl,
  r_getfield (j_all_mem ⟨⟨_, _, _, rfl, w_Lv, by decide, ⟨_, k_166, Or.inl rfl⟩⟩, trivial⟩) d_Lv_renumber_9,
  r_invV (j_all_mem ⟨⟨⟨_, _, _, rfl, k_345, k_346, k_347⟩, cw_AL_size, by decide, by decide +kernel⟩, trivial⟩) d_Lv_renumber_12,
  r_ic_ge d_Lv_renumber_15 (by decide),
  r_aload_n d_Lv_renumber_18 rfl,
  r_getfield (j_all_mem ⟨⟨_, _, _, rfl, w_Lv, by decide, ⟨_, k_166, Or.inl rfl⟩⟩, trivial⟩) d_Lv_renumber_19,
  r_iload_n d_Lv_renumber_22 rfl,
  r_invV (j_all_mem ⟨⟨⟨_, _, _, rfl, k_349, k_350, k_351⟩, cw_AL_get, by decide, by decide +kernel⟩, trivial⟩) d_Lv_renumber_23,
  r_checkcast k_363 (j_all_mem ⟨⟨_, _, rfl⟩, trivial⟩) (fun c h => by cases h) d_Lv_renumber_26,
  r_aload_n d_Lv_renumber_29 rfl,
  r_getfield (j_all_mem ⟨⟨_, _, _, rfl, w_Lv, by decide, ⟨_, k_167, Or.inl rfl⟩⟩, trivial⟩) d_Lv_renumber_30,
  r_invV (j_all_mem ⟨⟨⟨_, _, _, rfl, k_625, k_626, k_627⟩, cw_Tb_setStart, by decide, by decide +kernel⟩, trivial⟩) d_Lv_renumber_33,
  r_aload_n d_Lv_renumber_36 rfl,
  r_dup d_Lv_renumber_37,
  r_getfield (j_all_mem ⟨⟨_, _, _, rfl, w_Lv, by decide, ⟨_, k_167, Or.inl rfl⟩⟩, trivial⟩) d_Lv_renumber_38,
  r_aload_n d_Lv_renumber_41 rfl,
  r_getfield (j_all_mem ⟨⟨_, _, _, rfl, w_Lv, by decide, ⟨_, k_166, Or.inl rfl⟩⟩, trivial⟩) d_Lv_renumber_42,
  r_iload_n d_Lv_renumber_45 rfl,
  r_invV (j_all_mem ⟨⟨⟨_, _, _, rfl, k_349, k_350, k_351⟩, cw_AL_get, by decide, by decide +kernel⟩, trivial⟩) d_Lv_renumber_46,
  r_checkcast k_363 (j_all_mem ⟨⟨_, _, rfl⟩, trivial⟩) (fun c h => by cases h) d_Lv_renumber_49,
  r_invV (j_all_mem ⟨⟨⟨_, _, _, rfl, k_629, k_630, k_631⟩, cw_Tb_count, by decide, by decide +kernel⟩, trivial⟩) d_Lv_renumber_52,
  r_iadd d_Lv_renumber_55,
  r_putfield (fin := false) (j_all_mem ⟨⟨_, _, _, t_Lv, _, rfl, w_Lv, t_Lv_ok, n_Lv, by decide, rfl, t_Lv_ok 1 (by decide), Or.inl ⟨rfl, rfl⟩, ⟨_, k_167, Or.inl rfl⟩, (fun h => by cases h)⟩, trivial⟩) (fun h => by cases h) d_Lv_renumber_56,
  j_ok_ic d_Lv_renumber_59 rfl (by decide) (by decide),
  r_goto d_Lv_renumber_62 (by decide),
  r_return d_Lv_renumber_65 rfl, trivial⟩), (fun q h => by cases h), (fun _ => rfl)⟩
theorem d_Lv_startOf_0 : decode b_Lv_startOf 0 = .ok (.iload_n 1, 1) := by decide +kernel
theorem d_Lv_startOf_1 : decode b_Lv_startOf 1 = .ok (.ifCond .lt 31, 3) := by decide +kernel
theorem d_Lv_startOf_4 : decode b_Lv_startOf 4 = .ok (.iload_n 1, 1) := by decide +kernel
theorem d_Lv_startOf_5 : decode b_Lv_startOf 5 = .ok (.aload_n 0, 1) := by decide +kernel
theorem d_Lv_startOf_6 : decode b_Lv_startOf 6 = .ok (.getfield 12, 3) := by decide +kernel
theorem d_Lv_startOf_9 : decode b_Lv_startOf 9 = .ok (.invokevirtual 30, 3) := by decide +kernel
theorem d_Lv_startOf_12 : decode b_Lv_startOf 12 = .ok (.if_icmp .ge 20, 3) := by decide +kernel
theorem d_Lv_startOf_15 : decode b_Lv_startOf 15 = .ok (.aload_n 0, 1) := by decide +kernel
theorem d_Lv_startOf_16 : decode b_Lv_startOf 16 = .ok (.getfield 12, 3) := by decide +kernel
theorem d_Lv_startOf_19 : decode b_Lv_startOf 19 = .ok (.iload_n 1, 1) := by decide +kernel
theorem d_Lv_startOf_20 : decode b_Lv_startOf 20 = .ok (.invokevirtual 34, 3) := by decide +kernel
theorem d_Lv_startOf_23 : decode b_Lv_startOf 23 = .ok (.checkcast 38, 3) := by decide +kernel
theorem d_Lv_startOf_26 : decode b_Lv_startOf 26 = .ok (.invokevirtual 40, 3) := by decide +kernel
theorem d_Lv_startOf_29 : decode b_Lv_startOf 29 = .ok (.goto 7, 3) := by decide +kernel
theorem d_Lv_startOf_32 : decode b_Lv_startOf 32 = .ok (.aload_n 0, 1) := by decide +kernel
theorem d_Lv_startOf_33 : decode b_Lv_startOf 33 = .ok (.getfield 22, 3) := by decide +kernel
theorem d_Lv_startOf_36 : decode b_Lv_startOf 36 = .ok (.ireturn, 1) := by decide +kernel
def q_Lv_startOf : List (Nat × j_S) := [(0, j_ld 0 1 1),
  (1, j_br (f_if (fun x => decide (x < 0))) 32 4),
  (4, j_ld 0 1 5),
  (5, j_ld 2 0 6),
  (6, j_gf [5] 3 9),
  (9, j_cv [(10, 12)] 0),
  (12, j_br (f_ic (fun x y => decide (y ≤ x))) 32 15),
  (15, j_ld 2 0 16),
  (16, j_gf [5] 3 19),
  (19, j_ld 0 1 20),
  (20, j_cv [(10, 6)] 1),
  (23, j_cc [9] [] 26),
  (26, j_cv [(9, 118)] 0),
  (29, j_st f_id 36),
  (32, j_ld 2 0 33),
  (33, j_gf [5] 1 36),
  (36, j_rt 0)]
def i_Lv_startOf : j_I := (R_Lv, b_Lv_startOf, 2, false, (some .int), [])
def e_Lv_startOf : j_E := ((y_Lv_startOf, c_Lv_startOf), i_Lv_startOf, j_tab q_Lv_startOf, [])
theorem o_Lv_startOf (G : j_G) : j_mok G tm e_Lv_startOf := ⟨by decide +kernel, Or.inl ⟨rfl, rfl⟩, rfl, (fun h => by cases h), j_tab_ok (i := i_Lv_startOf) (l := q_Lv_startOf) (j_all_mem ⟨r_iload_n d_Lv_startOf_0 rfl,
  r_if_lt d_Lv_startOf_1 (by decide),
  r_iload_n d_Lv_startOf_4 rfl,
  r_aload_n d_Lv_startOf_5 rfl,
  r_getfield (j_all_mem ⟨⟨_, _, _, rfl, w_Lv, by decide, ⟨_, k_166, Or.inl rfl⟩⟩, trivial⟩) d_Lv_startOf_6,
  r_invV (j_all_mem ⟨⟨⟨_, _, _, rfl, k_345, k_346, k_347⟩, cw_AL_size, by decide, by decide +kernel⟩, trivial⟩) d_Lv_startOf_9,
  r_ic_ge d_Lv_startOf_12 (by decide),
  r_aload_n d_Lv_startOf_15 rfl,
  r_getfield (j_all_mem ⟨⟨_, _, _, rfl, w_Lv, by decide, ⟨_, k_166, Or.inl rfl⟩⟩, trivial⟩) d_Lv_startOf_16,
  r_iload_n d_Lv_startOf_19 rfl,
  r_invV (j_all_mem ⟨⟨⟨_, _, _, rfl, k_349, k_350, k_351⟩, cw_AL_get, by decide, by decide +kernel⟩, trivial⟩) d_Lv_startOf_20,
  r_checkcast k_363 (j_all_mem ⟨⟨_, _, rfl⟩, trivial⟩) (fun c h => by cases h) d_Lv_startOf_23,
  r_invV (j_all_mem ⟨⟨⟨_, _, _, rfl, k_364, k_365, k_366⟩, cw_Tb_start, by decide, by decide +kernel⟩, trivial⟩) d_Lv_startOf_26,
  r_goto d_Lv_startOf_29 (by decide),
  r_aload_n d_Lv_startOf_32 rfl,
  r_getfield (j_all_mem ⟨⟨_, _, _, rfl, w_Lv, by decide, ⟨_, k_167, Or.inl rfl⟩⟩, trivial⟩) d_Lv_startOf_33,
  r_ireturn d_Lv_startOf_36 rfl, trivial⟩), (fun q h => by cases h), (fun _ => rfl)⟩
theorem d_Lv_tableCount_0 : decode b_Lv_tableCount 0 = .ok (.aload_n 0, 1) := by decide +kernel
theorem d_Lv_tableCount_1 : decode b_Lv_tableCount 1 = .ok (.getfield 12, 3) := by decide +kernel
theorem d_Lv_tableCount_4 : decode b_Lv_tableCount 4 = .ok (.invokevirtual 30, 3) := by decide +kernel
theorem d_Lv_tableCount_7 : decode b_Lv_tableCount 7 = .ok (.ireturn, 1) := by decide +kernel
def q_Lv_tableCount : List (Nat × j_S) := [(0, j_ld 2 0 1),
  (1, j_gf [5] 3 4),
  (4, j_cv [(10, 12)] 0),
  (7, j_rt 0)]
def i_Lv_tableCount : j_I := (R_Lv, b_Lv_tableCount, 1, false, (some .int), [])
def e_Lv_tableCount : j_E := ((y_Lv_tableCount, c_Lv_tableCount), i_Lv_tableCount, j_tab q_Lv_tableCount, [])
theorem o_Lv_tableCount (G : j_G) : j_mok G tm e_Lv_tableCount := ⟨by decide +kernel, Or.inl ⟨rfl, rfl⟩, rfl, (fun h => by cases h), j_tab_ok (i := i_Lv_tableCount) (l := q_Lv_tableCount) (j_all_mem ⟨r_aload_n d_Lv_tableCount_0 rfl,
  r_getfield (j_all_mem ⟨⟨_, _, _, rfl, w_Lv, by decide, ⟨_, k_166, Or.inl rfl⟩⟩, trivial⟩) d_Lv_tableCount_1,
  r_invV (j_all_mem ⟨⟨⟨_, _, _, rfl, k_345, k_346, k_347⟩, cw_AL_size, by decide, by decide +kernel⟩, trivial⟩) d_Lv_tableCount_4,
  r_ireturn d_Lv_tableCount_7 rfl, trivial⟩), (fun q h => by cases h), (fun _ => rfl)⟩
theorem d_Lv_tableWith_0 : decode b_Lv_tableWith 0 = .ok (.iload_n 1, 1) := by decide +kernel
theorem d_Lv_tableWith_1 : decode b_Lv_tableWith 1 = .ok (.aload_n 0, 1) := by decide +kernel
theorem d_Lv_tableWith_2 : decode b_Lv_tableWith 2 = .ok (.getfield 22, 3) := by decide +kernel
theorem d_Lv_tableWith_5 : decode b_Lv_tableWith 5 = .ok (.if_icmp .lt 11, 3) := by decide +kernel
theorem d_Lv_tableWith_8 : decode b_Lv_tableWith 8 = .ok (.aload_n 0, 1) := by decide +kernel
theorem d_Lv_tableWith_9 : decode b_Lv_tableWith 9 = .ok (.getfield 12, 3) := by decide +kernel
theorem d_Lv_tableWith_12 : decode b_Lv_tableWith 12 = .ok (.invokevirtual 30, 3) := by decide +kernel
theorem d_Lv_tableWith_15 : decode b_Lv_tableWith 15 = .ok (.ireturn, 1) := by decide +kernel
theorem d_Lv_tableWith_16 : decode b_Lv_tableWith 16 = .ok (.iconst 0, 1) := by decide +kernel
theorem d_Lv_tableWith_17 : decode b_Lv_tableWith 17 = .ok (.istore_n 2, 1) := by decide +kernel
theorem d_Lv_tableWith_18 : decode b_Lv_tableWith 18 = .ok (.aload_n 0, 1) := by decide +kernel
theorem d_Lv_tableWith_19 : decode b_Lv_tableWith 19 = .ok (.getfield 12, 3) := by decide +kernel
theorem d_Lv_tableWith_22 : decode b_Lv_tableWith 22 = .ok (.invokevirtual 30, 3) := by decide +kernel
theorem d_Lv_tableWith_25 : decode b_Lv_tableWith 25 = .ok (.istore_n 3, 1) := by decide +kernel
theorem d_Lv_tableWith_26 : decode b_Lv_tableWith 26 = .ok (.iload_n 3, 1) := by decide +kernel
theorem d_Lv_tableWith_27 : decode b_Lv_tableWith 27 = .ok (.iconst 1, 1) := by decide +kernel
theorem d_Lv_tableWith_28 : decode b_Lv_tableWith 28 = .ok (.if_icmp .le 48, 3) := by decide +kernel
theorem d_Lv_tableWith_31 : decode b_Lv_tableWith 31 = .ok (.iload_n 3, 1) := by decide +kernel
theorem d_Lv_tableWith_32 : decode b_Lv_tableWith 32 = .ok (.iconst 1, 1) := by decide +kernel
theorem d_Lv_tableWith_33 : decode b_Lv_tableWith 33 = .ok (.ishr, 1) := by decide +kernel
theorem d_Lv_tableWith_34 : decode b_Lv_tableWith 34 = .ok (.istore 4, 2) := by decide +kernel
theorem d_Lv_tableWith_36 : decode b_Lv_tableWith 36 = .ok (.aload_n 0, 1) := by decide +kernel
theorem d_Lv_tableWith_37 : decode b_Lv_tableWith 37 = .ok (.getfield 12, 3) := by decide +kernel
theorem d_Lv_tableWith_40 : decode b_Lv_tableWith 40 = .ok (.iload_n 2, 1) := by decide +kernel
theorem d_Lv_tableWith_41 : decode b_Lv_tableWith 41 = .ok (.iload 4, 2) := by decide +kernel
theorem d_Lv_tableWith_43 : decode b_Lv_tableWith 43 = .ok (.iadd, 1) := by decide +kernel
theorem d_Lv_tableWith_44 : decode b_Lv_tableWith 44 = .ok (.invokevirtual 34, 3) := by decide +kernel
theorem d_Lv_tableWith_47 : decode b_Lv_tableWith 47 = .ok (.checkcast 38, 3) := by decide +kernel
theorem d_Lv_tableWith_50 : decode b_Lv_tableWith 50 = .ok (.invokevirtual 40, 3) := by decide +kernel
theorem d_Lv_tableWith_53 : decode b_Lv_tableWith 53 = .ok (.iload_n 1, 1) := by decide +kernel
theorem d_Lv_tableWith_54 : decode b_Lv_tableWith 54 = .ok (.if_icmp .gt 16, 3) := by decide +kernel
theorem d_Lv_tableWith_57 : decode b_Lv_tableWith 57 = .ok (.iload_n 2, 1) := by decide +kernel
theorem d_Lv_tableWith_58 : decode b_Lv_tableWith 58 = .ok (.iload 4, 2) := by decide +kernel
theorem d_Lv_tableWith_60 : decode b_Lv_tableWith 60 = .ok (.iadd, 1) := by decide +kernel
theorem d_Lv_tableWith_61 : decode b_Lv_tableWith 61 = .ok (.istore_n 2, 1) := by decide +kernel
theorem d_Lv_tableWith_62 : decode b_Lv_tableWith 62 = .ok (.iload_n 3, 1) := by decide +kernel
theorem d_Lv_tableWith_63 : decode b_Lv_tableWith 63 = .ok (.iload 4, 2) := by decide +kernel
theorem d_Lv_tableWith_65 : decode b_Lv_tableWith 65 = .ok (.isub, 1) := by decide +kernel
theorem d_Lv_tableWith_66 : decode b_Lv_tableWith 66 = .ok (.istore_n 3, 1) := by decide +kernel
theorem d_Lv_tableWith_67 : decode b_Lv_tableWith 67 = .ok (.goto 6, 3) := by decide +kernel
theorem d_Lv_tableWith_70 : decode b_Lv_tableWith 70 = .ok (.iload 4, 2) := by decide +kernel
theorem d_Lv_tableWith_72 : decode b_Lv_tableWith 72 = .ok (.istore_n 3, 1) := by decide +kernel
theorem d_Lv_tableWith_73 : decode b_Lv_tableWith 73 = .ok (.goto (-47), 3) := by decide +kernel
theorem d_Lv_tableWith_76 : decode b_Lv_tableWith 76 = .ok (.iload_n 2, 1) := by decide +kernel
theorem d_Lv_tableWith_77 : decode b_Lv_tableWith 77 = .ok (.ireturn, 1) := by decide +kernel
def q_Lv_tableWith : List (Nat × j_S) := [(0, j_ld 0 1 1),
  (1, j_ld 2 0 2),
  (2, j_gf [5] 1 5),
  (5, j_br (f_ic (fun x y => decide (x < y))) 16 8),
  (8, j_ld 2 0 9),
  (9, j_gf [5] 3 12),
  (12, j_cv [(10, 12)] 0),
  (15, j_rt 0),
  (16, j_st (f_psh (.int 0)) 17),
  (17, j_so 0 2 18),
  (18, j_ld 2 0 19),
  (19, j_gf [5] 3 22),
  (22, j_cv [(10, 12)] 0),
  (25, j_so 0 3 26),
  (26, j_ld 0 3 27),
  (27, j_st (f_psh (.int 1)) 28),
  (28, j_br (f_ic (fun x y => decide (x ≤ y))) 76 31),
  (31, j_ld 0 3 32),
  (32, j_st (f_psh (.int 1)) 33),
  (33, j_st (f_ii (fun a b => a >>> (b &&& 31))) 34),
  (34, j_so 0 4 36),
  (36, j_ld 2 0 37),
  (37, j_gf [5] 3 40),
  (40, j_ld 0 2 41),
  (41, j_ld 0 4 43),
  (43, j_st (f_ii (fun a b => a + b)) 44),
  (44, j_cv [(10, 6)] 1),
  (47, j_cc [9] [] 50),
  (50, j_cv [(9, 118)] 0),
  (53, j_ld 0 1 54),
  (54, j_br (f_ic (fun x y => decide (y < x))) 70 57),
  (57, j_ld 0 2 58),
  (58, j_ld 0 4 60),
  (60, j_st (f_ii (fun a b => a + b)) 61),
  (61, j_so 0 2 62),
  (62, j_ld 0 3 63),
  (63, j_ld 0 4 65),
  (65, j_st (f_ii (fun a b => a - b)) 66),
  (66, j_so 0 3 67),
  (67, j_st f_id 73),
  (70, j_ld 0 4 72),
  (72, j_so 0 3 73),
  (73, j_st f_id 26),
  (76, j_ld 0 2 77),
  (77, j_rt 0)]
def i_Lv_tableWith : j_I := (R_Lv, b_Lv_tableWith, 5, false, (some .int), [])
def e_Lv_tableWith : j_E := ((y_Lv_tableWith, c_Lv_tableWith), i_Lv_tableWith, j_tab q_Lv_tableWith, [])
theorem o_Lv_tableWith (G : j_G) : j_mok G tm e_Lv_tableWith := ⟨by decide +kernel, Or.inl ⟨rfl, rfl⟩, rfl, (fun h => by cases h), j_tab_ok (i := i_Lv_tableWith) (l := q_Lv_tableWith) (j_all_mem ⟨r_iload_n d_Lv_tableWith_0 rfl,
  r_aload_n d_Lv_tableWith_1 rfl,
  r_getfield (j_all_mem ⟨⟨_, _, _, rfl, w_Lv, by decide, ⟨_, k_167, Or.inl rfl⟩⟩, trivial⟩) d_Lv_tableWith_2,
  r_ic_lt d_Lv_tableWith_5 (by decide),
  r_aload_n d_Lv_tableWith_8 rfl,
  r_getfield (j_all_mem ⟨⟨_, _, _, rfl, w_Lv, by decide, ⟨_, k_166, Or.inl rfl⟩⟩, trivial⟩) d_Lv_tableWith_9,
  r_invV (j_all_mem ⟨⟨⟨_, _, _, rfl, k_345, k_346, k_347⟩, cw_AL_size, by decide, by decide +kernel⟩, trivial⟩) d_Lv_tableWith_12,
  r_ireturn d_Lv_tableWith_15 rfl,
  r_iconst d_Lv_tableWith_16 (by decide),
  r_istore_n d_Lv_tableWith_17 rfl (by decide),
  r_aload_n d_Lv_tableWith_18 rfl,
  r_getfield (j_all_mem ⟨⟨_, _, _, rfl, w_Lv, by decide, ⟨_, k_166, Or.inl rfl⟩⟩, trivial⟩) d_Lv_tableWith_19,
  r_invV (j_all_mem ⟨⟨⟨_, _, _, rfl, k_345, k_346, k_347⟩, cw_AL_size, by decide, by decide +kernel⟩, trivial⟩) d_Lv_tableWith_22,
  r_istore_n d_Lv_tableWith_25 rfl (by decide),
  r_iload_n d_Lv_tableWith_26 rfl,
  r_iconst d_Lv_tableWith_27 (by decide),
  r_ic_le d_Lv_tableWith_28 (by decide),
  r_iload_n d_Lv_tableWith_31 rfl,
  r_iconst d_Lv_tableWith_32 (by decide),
  r_ishr d_Lv_tableWith_33,
  r_istore d_Lv_tableWith_34 (by decide),
  r_aload_n d_Lv_tableWith_36 rfl,
  r_getfield (j_all_mem ⟨⟨_, _, _, rfl, w_Lv, by decide, ⟨_, k_166, Or.inl rfl⟩⟩, trivial⟩) d_Lv_tableWith_37,
  r_iload_n d_Lv_tableWith_40 rfl,
  r_iload d_Lv_tableWith_41,
  r_iadd d_Lv_tableWith_43,
  r_invV (j_all_mem ⟨⟨⟨_, _, _, rfl, k_349, k_350, k_351⟩, cw_AL_get, by decide, by decide +kernel⟩, trivial⟩) d_Lv_tableWith_44,
  r_checkcast k_363 (j_all_mem ⟨⟨_, _, rfl⟩, trivial⟩) (fun c h => by cases h) d_Lv_tableWith_47,
  r_invV (j_all_mem ⟨⟨⟨_, _, _, rfl, k_364, k_365, k_366⟩, cw_Tb_start, by decide, by decide +kernel⟩, trivial⟩) d_Lv_tableWith_50,
  r_iload_n d_Lv_tableWith_53 rfl,
  r_ic_gt d_Lv_tableWith_54 (by decide),
  r_iload_n d_Lv_tableWith_57 rfl,
  r_iload d_Lv_tableWith_58,
  r_iadd d_Lv_tableWith_60,
  r_istore_n d_Lv_tableWith_61 rfl (by decide),
  r_iload_n d_Lv_tableWith_62 rfl,
  r_iload d_Lv_tableWith_63,
  r_isub d_Lv_tableWith_65,
  r_istore_n d_Lv_tableWith_66 rfl (by decide),
  r_goto d_Lv_tableWith_67 (by decide),
  r_iload d_Lv_tableWith_70,
  r_istore_n d_Lv_tableWith_72 rfl (by decide),
  r_goto d_Lv_tableWith_73 (by decide),
  r_iload_n d_Lv_tableWith_76 rfl,
  r_ireturn d_Lv_tableWith_77 rfl, trivial⟩), (fun q h => by cases h), (fun _ => rfl)⟩
