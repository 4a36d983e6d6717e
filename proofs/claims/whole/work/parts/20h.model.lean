/-! the methods of Mo: their instructions, and that each is right (written by wip/whole/gen.py) -/
theorem d_Mo_check_0 : decode b_Mo_check 0 = .ok (.aload_n 0, 1) := by decide +kernel
theorem d_Mo_check_1 : decode b_Mo_check 1 = .ok (.invokevirtual 73, 3) := by decide +kernel
theorem d_Mo_check_4 : decode b_Mo_check 4 = .ok (.ireturn, 1) := by decide +kernel
def q_Mo_check : List (Nat × j_S) := [(0, j_ld 2 0 1),
  (1, j_cv [(11, 103)] 0),
  (4, j_rt 0)]
def i_Mo_check : j_I := (R_Mo, b_Mo_check, 1, false, (some .int), [])
def e_Mo_check : j_E := ((y_Mo_check, c_Mo_check), i_Mo_check, j_tab q_Mo_check, [])
theorem o_Mo_check (G : j_G) : j_mok G tm e_Mo_check := ⟨by decide +kernel, Or.inl ⟨rfl, rfl⟩, rfl, (fun h => by cases h), j_tab_ok (i := i_Mo_check) (l := q_Mo_check) (j_all_mem ⟨r_aload_n d_Mo_check_0 rfl,
  r_invV (j_all_mem ⟨⟨⟨_, _, _, rfl, k_1362, k_1364, kp_Mo_present⟩, cw_Mo_present, by decide, by decide +kernel⟩, trivial⟩) d_Mo_check_1,
  r_ireturn d_Mo_check_4 rfl, trivial⟩), (fun q h => by cases h), (fun _ => rfl)⟩
theorem d_Mo_close_0 : decode b_Mo_close 0 = .ok (.aload_n 0, 1) := by decide +kernel
theorem d_Mo_close_1 : decode b_Mo_close 1 = .ok (.iconst 0, 1) := by decide +kernel
theorem d_Mo_close_2 : decode b_Mo_close 2 = .ok (.putfield 37, 3) := by decide +kernel
theorem d_Mo_close_5 : decode b_Mo_close 5 = .ok (.iload_n 1, 1) := by decide +kernel
theorem d_Mo_close_6 : decode b_Mo_close 6 = .ok (.ifCond .lt 9, 3) := by decide +kernel
theorem d_Mo_close_9 : decode b_Mo_close 9 = .ok (.iload_n 1, 1) := by decide +kernel
theorem d_Mo_close_10 : decode b_Mo_close 10 = .ok (.bipush 7, 2) := by decide +kernel
theorem d_Mo_close_12 : decode b_Mo_close 12 = .ok (.if_icmp .le 9, 3) := by decide +kernel
theorem d_Mo_close_15 : decode b_Mo_close 15 = .ok (.aload_n 0, 1) := by decide +kernel
theorem d_Mo_close_16 : decode b_Mo_close 16 = .ok (.iconst 1, 1) := by decide +kernel
theorem d_Mo_close_17 : decode b_Mo_close 17 = .ok (.invokevirtual 43, 3) := by decide +kernel
theorem d_Mo_close_20 : decode b_Mo_close 20 = .ok (.ireturn, 1) := by decide +kernel
theorem d_Mo_close_21 : decode b_Mo_close 21 = .ok (.aload_n 0, 1) := by decide +kernel
theorem d_Mo_close_22 : decode b_Mo_close 22 = .ok (.getfield 26, 3) := by decide +kernel
theorem d_Mo_close_25 : decode b_Mo_close 25 = .ok (.iload_n 1, 1) := by decide +kernel
theorem d_Mo_close_26 : decode b_Mo_close 26 = .ok (.baload, 1) := by decide +kernel
theorem d_Mo_close_27 : decode b_Mo_close 27 = .ok (.ifCond .ne 9, 3) := by decide +kernel
theorem d_Mo_close_30 : decode b_Mo_close 30 = .ok (.aload_n 0, 1) := by decide +kernel
theorem d_Mo_close_31 : decode b_Mo_close 31 = .ok (.iconst 2, 1) := by decide +kernel
theorem d_Mo_close_32 : decode b_Mo_close 32 = .ok (.invokevirtual 43, 3) := by decide +kernel
theorem d_Mo_close_35 : decode b_Mo_close 35 = .ok (.ireturn, 1) := by decide +kernel
theorem d_Mo_close_36 : decode b_Mo_close 36 = .ok (.aload_n 0, 1) := by decide +kernel
theorem d_Mo_close_37 : decode b_Mo_close 37 = .ok (.getfield 26, 3) := by decide +kernel
theorem d_Mo_close_40 : decode b_Mo_close 40 = .ok (.iload_n 1, 1) := by decide +kernel
theorem d_Mo_close_41 : decode b_Mo_close 41 = .ok (.iconst 0, 1) := by decide +kernel
theorem d_Mo_close_42 : decode b_Mo_close 42 = .ok (.bastore, 1) := by decide +kernel
theorem d_Mo_close_43 : decode b_Mo_close 43 = .ok (.aload_n 0, 1) := by decide +kernel
theorem d_Mo_close_44 : decode b_Mo_close 44 = .ok (.getfield 30, 3) := by decide +kernel
theorem d_Mo_close_47 : decode b_Mo_close 47 = .ok (.iload_n 1, 1) := by decide +kernel
theorem d_Mo_close_48 : decode b_Mo_close 48 = .ok (.iaload, 1) := by decide +kernel
theorem d_Mo_close_49 : decode b_Mo_close 49 = .ok (.ireturn, 1) := by decide +kernel
def q_Mo_close : List (Nat × j_S) := [(0, j_ld 2 0 1),
  (1, j_st (f_psh (.int 0)) 2),
  (2, j_pf [11] 0 0 5),
  (5, j_ld 0 1 6),
  (6, j_br (f_if (fun x => decide (x < 0))) 15 9),
  (9, j_ld 0 1 10),
  (10, j_st (f_psh (.int 7)) 12),
  (12, j_br (f_ic (fun x y => decide (x ≤ y))) 21 15),
  (15, j_ld 2 0 16),
  (16, j_st (f_psh (.int 1)) 17),
  (17, j_cv [(11, 94)] 1),
  (20, j_rt 0),
  (21, j_ld 2 0 22),
  (22, j_gf [11] 10 25),
  (25, j_ld 0 1 26),
  (26, j_alb 27),
  (27, j_br (f_if (fun x => decide (¬ x = 0))) 36 30),
  (30, j_ld 2 0 31),
  (31, j_st (f_psh (.int 2)) 32),
  (32, j_cv [(11, 94)] 1),
  (35, j_rt 0),
  (36, j_ld 2 0 37),
  (37, j_gf [11] 10 40),
  (40, j_ld 0 1 41),
  (41, j_st (f_psh (.int 0)) 42),
  (42, j_abz 43),
  (43, j_ld 2 0 44),
  (44, j_gf [11] 11 47),
  (47, j_ld 0 1 48),
  (48, j_al 0 49),
  (49, j_rt 0)]
def i_Mo_close : j_I := (R_Mo, b_Mo_close, 2, false, (some .int), [])
def e_Mo_close : j_E := ((y_Mo_close, c_Mo_close), i_Mo_close, j_tab q_Mo_close, [])
theorem o_Mo_close (G : j_G) : j_mok G tm e_Mo_close := ⟨by decide +kernel, Or.inl ⟨rfl, rfl⟩, rfl, (fun h => by cases h), j_tab_ok (i := i_Mo_close) (l := q_Mo_close) (j_all_mem ⟨r_aload_n d_Mo_close_0 rfl,
  r_iconst d_Mo_close_1 (by decide),
  r_putfield (fin := false) (j_all_mem ⟨⟨_, _, _, t_Mo, _, rfl, w_Mo, t_Mo_ok, n_Mo, by decide, rfl, t_Mo_ok 0 (by decide), Or.inl ⟨rfl, rfl⟩, ⟨_, k_1251, Or.inl rfl⟩, (fun h => by cases h)⟩, trivial⟩) (fun h => by cases h) d_Mo_close_2,
  r_iload_n d_Mo_close_5 rfl,
  r_if_lt d_Mo_close_6 (by decide),
  r_iload_n d_Mo_close_9 rfl,
  r_bipush d_Mo_close_10 (by decide),
  r_ic_le d_Mo_close_12 (by decide),
  r_aload_n d_Mo_close_15 rfl,
  r_iconst d_Mo_close_16 (by decide),
  r_invV (j_all_mem ⟨⟨⟨_, _, _, rfl, k_1297, k_1299, kp_Mo_fail⟩, cw_Mo_fail, by decide, by decide +kernel⟩, trivial⟩) d_Mo_close_17,
  r_ireturn d_Mo_close_20 rfl,
  r_aload_n d_Mo_close_21 rfl,
  r_getfield (j_all_mem ⟨⟨_, _, _, rfl, w_Mo, by decide, ⟨_, k_1260, Or.inl rfl⟩⟩, trivial⟩) d_Mo_close_22,
  r_iload_n d_Mo_close_25 rfl,
  r_baload2 d_Mo_close_26,
  r_if_ne d_Mo_close_27 (by decide),
  r_aload_n d_Mo_close_30 rfl,
  r_iconst d_Mo_close_31 (by decide),
  r_invV (j_all_mem ⟨⟨⟨_, _, _, rfl, k_1297, k_1299, kp_Mo_fail⟩, cw_Mo_fail, by decide, by decide +kernel⟩, trivial⟩) d_Mo_close_32,
  r_ireturn d_Mo_close_35 rfl,
  r_aload_n d_Mo_close_36 rfl,
  r_getfield (j_all_mem ⟨⟨_, _, _, rfl, w_Mo, by decide, ⟨_, k_1260, Or.inl rfl⟩⟩, trivial⟩) d_Mo_close_37,
  r_iload_n d_Mo_close_40 rfl,
  r_iconst d_Mo_close_41 (by decide),
  r_bastore2 d_Mo_close_42,
  r_aload_n d_Mo_close_43 rfl,
  r_getfield (j_all_mem ⟨⟨_, _, _, rfl, w_Mo, by decide, ⟨_, k_1261, Or.inl rfl⟩⟩, trivial⟩) d_Mo_close_44,
  r_iload_n d_Mo_close_47 rfl,
  r_iaload d_Mo_close_48,
  r_ireturn d_Mo_close_49 rfl, trivial⟩), (fun q h => by cases h), (fun _ => rfl)⟩
theorem d_Mo_compare_0 : decode b_Mo_compare 0 = .ok (.iconst 0, 1) := by decide +kernel
theorem d_Mo_compare_1 : decode b_Mo_compare 1 = .ok (.istore_n 3, 1) := by decide +kernel
theorem d_Mo_compare_2 : decode b_Mo_compare 2 = .ok (.iload_n 3, 1) := by decide +kernel
theorem d_Mo_compare_3 : decode b_Mo_compare 3 = .ok (.aload_n 0, 1) := by decide +kernel
theorem d_Mo_compare_4 : decode b_Mo_compare 4 = .ok (.getfield 16, 3) := by decide +kernel
theorem d_Mo_compare_7 : decode b_Mo_compare 7 = .ok (.iload_n 1, 1) := by decide +kernel
theorem d_Mo_compare_8 : decode b_Mo_compare 8 = .ok (.iaload, 1) := by decide +kernel
theorem d_Mo_compare_9 : decode b_Mo_compare 9 = .ok (.if_icmp .ge 60, 3) := by decide +kernel
theorem d_Mo_compare_12 : decode b_Mo_compare 12 = .ok (.iload_n 3, 1) := by decide +kernel
theorem d_Mo_compare_13 : decode b_Mo_compare 13 = .ok (.aload_n 0, 1) := by decide +kernel
theorem d_Mo_compare_14 : decode b_Mo_compare 14 = .ok (.getfield 16, 3) := by decide +kernel
theorem d_Mo_compare_17 : decode b_Mo_compare 17 = .ok (.iload_n 2, 1) := by decide +kernel
theorem d_Mo_compare_18 : decode b_Mo_compare 18 = .ok (.iaload, 1) := by decide +kernel
theorem d_Mo_compare_19 : decode b_Mo_compare 19 = .ok (.if_icmp .ge 50, 3) := by decide +kernel
theorem d_Mo_compare_22 : decode b_Mo_compare 22 = .ok (.aload_n 0, 1) := by decide +kernel
theorem d_Mo_compare_23 : decode b_Mo_compare 23 = .ok (.getfield 13, 3) := by decide +kernel
theorem d_Mo_compare_26 : decode b_Mo_compare 26 = .ok (.bipush 40, 2) := by decide +kernel
theorem d_Mo_compare_28 : decode b_Mo_compare 28 = .ok (.iload_n 1, 1) := by decide +kernel
theorem d_Mo_compare_29 : decode b_Mo_compare 29 = .ok (.imul, 1) := by decide +kernel
theorem d_Mo_compare_30 : decode b_Mo_compare 30 = .ok (.iload_n 3, 1) := by decide +kernel
theorem d_Mo_compare_31 : decode b_Mo_compare 31 = .ok (.iadd, 1) := by decide +kernel
theorem d_Mo_compare_32 : decode b_Mo_compare 32 = .ok (.baload, 1) := by decide +kernel
theorem d_Mo_compare_33 : decode b_Mo_compare 33 = .ok (.sipush 255, 3) := by decide +kernel
theorem d_Mo_compare_36 : decode b_Mo_compare 36 = .ok (.iand, 1) := by decide +kernel
theorem d_Mo_compare_37 : decode b_Mo_compare 37 = .ok (.aload_n 0, 1) := by decide +kernel
theorem d_Mo_compare_38 : decode b_Mo_compare 38 = .ok (.getfield 13, 3) := by decide +kernel
theorem d_Mo_compare_41 : decode b_Mo_compare 41 = .ok (.bipush 40, 2) := by decide +kernel
theorem d_Mo_compare_43 : decode b_Mo_compare 43 = .ok (.iload_n 2, 1) := by decide +kernel
theorem d_Mo_compare_44 : decode b_Mo_compare 44 = .ok (.imul, 1) := by decide +kernel
theorem d_Mo_compare_45 : decode b_Mo_compare 45 = .ok (.iload_n 3, 1) := by decide +kernel
theorem d_Mo_compare_46 : decode b_Mo_compare 46 = .ok (.iadd, 1) := by decide +kernel
theorem d_Mo_compare_47 : decode b_Mo_compare 47 = .ok (.baload, 1) := by decide +kernel
theorem d_Mo_compare_48 : decode b_Mo_compare 48 = .ok (.sipush 255, 3) := by decide +kernel
theorem d_Mo_compare_51 : decode b_Mo_compare 51 = .ok (.iand, 1) := by decide +kernel
theorem d_Mo_compare_52 : decode b_Mo_compare 52 = .ok (.isub, 1) := by decide +kernel
theorem d_Mo_compare_53 : decode b_Mo_compare 53 = .ok (.istore 4, 2) := by decide +kernel
theorem d_Mo_compare_55 : decode b_Mo_compare 55 = .ok (.iload 4, 2) := by decide +kernel
theorem d_Mo_compare_57 : decode b_Mo_compare 57 = .ok (.ifCond .eq 6, 3) := by decide +kernel
theorem d_Mo_compare_60 : decode b_Mo_compare 60 = .ok (.iload 4, 2) := by decide +kernel
theorem d_Mo_compare_62 : decode b_Mo_compare 62 = .ok (.ireturn, 1) := by decide +kernel
theorem d_Mo_compare_63 : decode b_Mo_compare 63 = .ok (.iinc 3 1, 3) := by decide +kernel
theorem d_Mo_compare_66 : decode b_Mo_compare 66 = .ok (.goto (-64), 3) := by decide +kernel
theorem d_Mo_compare_69 : decode b_Mo_compare 69 = .ok (.aload_n 0, 1) := by decide +kernel
theorem d_Mo_compare_70 : decode b_Mo_compare 70 = .ok (.getfield 16, 3) := by decide +kernel
theorem d_Mo_compare_73 : decode b_Mo_compare 73 = .ok (.iload_n 1, 1) := by decide +kernel
theorem d_Mo_compare_74 : decode b_Mo_compare 74 = .ok (.iaload, 1) := by decide +kernel
theorem d_Mo_compare_75 : decode b_Mo_compare 75 = .ok (.aload_n 0, 1) := by decide +kernel
theorem d_Mo_compare_76 : decode b_Mo_compare 76 = .ok (.getfield 16, 3) := by decide +kernel
theorem d_Mo_compare_79 : decode b_Mo_compare 79 = .ok (.iload_n 2, 1) := by decide +kernel
theorem d_Mo_compare_80 : decode b_Mo_compare 80 = .ok (.iaload, 1) := by decide +kernel
theorem d_Mo_compare_81 : decode b_Mo_compare 81 = .ok (.isub, 1) := by decide +kernel
theorem d_Mo_compare_82 : decode b_Mo_compare 82 = .ok (.ireturn, 1) := by decide +kernel
def q_Mo_compare : List (Nat × j_S) := [(0, j_st (f_psh (.int 0)) 1),
  (1, j_so 0 3 2),
  (2, j_ld 0 3 3),
  (3, j_ld 2 0 4),
  (4, j_gf [11] 7 7),
  (7, j_ld 0 1 8),
  (8, j_al 0 9),
  (9, j_br (f_ic (fun x y => decide (y ≤ x))) 69 12),
  (12, j_ld 0 3 13),
  (13, j_ld 2 0 14),
  (14, j_gf [11] 7 17),
  (17, j_ld 0 2 18),
  (18, j_al 0 19),
  (19, j_br (f_ic (fun x y => decide (y ≤ x))) 69 22),
  (22, j_ld 2 0 23),
  (23, j_gf [11] 6 26),
  (26, j_st (f_psh (.int 40)) 28),
  (28, j_ld 0 1 29),
  (29, j_st (f_ii (fun a b => a * b)) 30),
  (30, j_ld 0 3 31),
  (31, j_st (f_ii (fun a b => a + b)) 32),
  (32, j_alb 33),
  (33, j_st (f_psh (.int 255)) 36),
  (36, j_st (f_ii (fun a b => a &&& b)) 37),
  (37, j_ld 2 0 38),
  (38, j_gf [11] 6 41),
  (41, j_st (f_psh (.int 40)) 43),
  (43, j_ld 0 2 44),
  (44, j_st (f_ii (fun a b => a * b)) 45),
  (45, j_ld 0 3 46),
  (46, j_st (f_ii (fun a b => a + b)) 47),
  (47, j_alb 48),
  (48, j_st (f_psh (.int 255)) 51),
  (51, j_st (f_ii (fun a b => a &&& b)) 52),
  (52, j_st (f_ii (fun a b => a - b)) 53),
  (53, j_so 0 4 55),
  (55, j_ld 0 4 57),
  (57, j_br (f_if (fun x => decide (x = 0))) 63 60),
  (60, j_ld 0 4 62),
  (62, j_rt 0),
  (63, j_ic 3 1 66),
  (66, j_st f_id 2),
  (69, j_ld 2 0 70),
  (70, j_gf [11] 7 73),
  (73, j_ld 0 1 74),
  (74, j_al 0 75),
  (75, j_ld 2 0 76),
  (76, j_gf [11] 7 79),
  (79, j_ld 0 2 80),
  (80, j_al 0 81),
  (81, j_st (f_ii (fun a b => a - b)) 82),
  (82, j_rt 0)]
def i_Mo_compare : j_I := (R_Mo, b_Mo_compare, 5, false, (some .int), [])
def e_Mo_compare : j_E := ((y_Mo_compare, c_Mo_compare), i_Mo_compare, j_tab q_Mo_compare, [])
theorem o_Mo_compare (G : j_G) : j_mok G tm e_Mo_compare := ⟨by decide +kernel, Or.inl ⟨rfl, rfl⟩, rfl, (fun h => by cases h), j_tab_ok (i := i_Mo_compare) (l := q_Mo_compare) (j_all_mem ⟨r_iconst d_Mo_compare_0 (by decide),
  r_istore_n d_Mo_compare_1 rfl (by decide),
  r_iload_n d_Mo_compare_2 rfl,
  r_aload_n d_Mo_compare_3 rfl,
  r_getfield (j_all_mem ⟨⟨_, _, _, rfl, w_Mo, by decide, ⟨_, k_1255, Or.inl rfl⟩⟩, trivial⟩) d_Mo_compare_4,
  r_iload_n d_Mo_compare_7 rfl,
  r_iaload d_Mo_compare_8,
  r_ic_ge d_Mo_compare_9 (by decide),
  r_iload_n d_Mo_compare_12 rfl,
  r_aload_n d_Mo_compare_13 rfl,
  r_getfield (j_all_mem ⟨⟨_, _, _, rfl, w_Mo, by decide, ⟨_, k_1255, Or.inl rfl⟩⟩, trivial⟩) d_Mo_compare_14,
  r_iload_n d_Mo_compare_17 rfl,
  r_iaload d_Mo_compare_18,
  r_ic_ge d_Mo_compare_19 (by decide),
  r_aload_n d_Mo_compare_22 rfl,
  r_getfield (j_all_mem ⟨⟨_, _, _, rfl, w_Mo, by decide, ⟨_, k_1254, Or.inl rfl⟩⟩, trivial⟩) d_Mo_compare_23,
  r_bipush d_Mo_compare_26 (by decide),
  r_iload_n d_Mo_compare_28 rfl,
  r_imul d_Mo_compare_29,
  r_iload_n d_Mo_compare_30 rfl,
  r_iadd d_Mo_compare_31,
  r_baload2 d_Mo_compare_32,
  r_sipush d_Mo_compare_33 (by decide),
  r_iand d_Mo_compare_36,
  r_aload_n d_Mo_compare_37 rfl,
  r_getfield (j_all_mem ⟨⟨_, _, _, rfl, w_Mo, by decide, ⟨_, k_1254, Or.inl rfl⟩⟩, trivial⟩) d_Mo_compare_38,
  r_bipush d_Mo_compare_41 (by decide),
  r_iload_n d_Mo_compare_43 rfl,
  r_imul d_Mo_compare_44,
  r_iload_n d_Mo_compare_45 rfl,
  r_iadd d_Mo_compare_46,
  r_baload2 d_Mo_compare_47,
  r_sipush d_Mo_compare_48 (by decide),
  r_iand d_Mo_compare_51,
  r_isub d_Mo_compare_52,
  r_istore d_Mo_compare_53 (by decide),
  r_iload d_Mo_compare_55,
  r_if_eq d_Mo_compare_57 (by decide),
  r_iload d_Mo_compare_60,
  r_ireturn d_Mo_compare_62 rfl,
  j_ok_ic d_Mo_compare_63 rfl (by decide) (by decide),
  r_goto d_Mo_compare_66 (by decide),
  r_aload_n d_Mo_compare_69 rfl,
  r_getfield (j_all_mem ⟨⟨_, _, _, rfl, w_Mo, by decide, ⟨_, k_1255, Or.inl rfl⟩⟩, trivial⟩) d_Mo_compare_70,
  r_iload_n d_Mo_compare_73 rfl,
  r_iaload d_Mo_compare_74,
  r_aload_n d_Mo_compare_75 rfl,
  r_getfield (j_all_mem ⟨⟨_, _, _, rfl, w_Mo, by decide, ⟨_, k_1255, Or.inl rfl⟩⟩, trivial⟩) d_Mo_compare_76,
  r_iload_n d_Mo_compare_79 rfl,
  r_iaload d_Mo_compare_80,
  r_isub d_Mo_compare_81,
  r_ireturn d_Mo_compare_82 rfl, trivial⟩), (fun q h => by cases h), (fun _ => rfl)⟩
theorem d_Mo_compareTape_0 : decode b_Mo_compareTape 0 = .ok (.iconst 0, 1) := by decide +kernel
theorem d_Mo_compareTape_1 : decode b_Mo_compareTape 1 = .ok (.istore_n 3, 1) := by decide +kernel
theorem d_Mo_compareTape_2 : decode b_Mo_compareTape 2 = .ok (.iload_n 3, 1) := by decide +kernel
theorem d_Mo_compareTape_3 : decode b_Mo_compareTape 3 = .ok (.aload_n 0, 1) := by decide +kernel
theorem d_Mo_compareTape_4 : decode b_Mo_compareTape 4 = .ok (.getfield 16, 3) := by decide +kernel
theorem d_Mo_compareTape_7 : decode b_Mo_compareTape 7 = .ok (.iload_n 1, 1) := by decide +kernel
theorem d_Mo_compareTape_8 : decode b_Mo_compareTape 8 = .ok (.iaload, 1) := by decide +kernel
theorem d_Mo_compareTape_9 : decode b_Mo_compareTape 9 = .ok (.if_icmp .ge 50, 3) := by decide +kernel
theorem d_Mo_compareTape_12 : decode b_Mo_compareTape 12 = .ok (.iload_n 3, 1) := by decide +kernel
theorem d_Mo_compareTape_13 : decode b_Mo_compareTape 13 = .ok (.iload_n 2, 1) := by decide +kernel
theorem d_Mo_compareTape_14 : decode b_Mo_compareTape 14 = .ok (.if_icmp .ge 45, 3) := by decide +kernel
theorem d_Mo_compareTape_17 : decode b_Mo_compareTape 17 = .ok (.aload_n 0, 1) := by decide +kernel
theorem d_Mo_compareTape_18 : decode b_Mo_compareTape 18 = .ok (.getfield 13, 3) := by decide +kernel
theorem d_Mo_compareTape_21 : decode b_Mo_compareTape 21 = .ok (.bipush 40, 2) := by decide +kernel
theorem d_Mo_compareTape_23 : decode b_Mo_compareTape 23 = .ok (.iload_n 1, 1) := by decide +kernel
theorem d_Mo_compareTape_24 : decode b_Mo_compareTape 24 = .ok (.imul, 1) := by decide +kernel
theorem d_Mo_compareTape_25 : decode b_Mo_compareTape 25 = .ok (.iload_n 3, 1) := by decide +kernel
theorem d_Mo_compareTape_26 : decode b_Mo_compareTape 26 = .ok (.iadd, 1) := by decide +kernel
theorem d_Mo_compareTape_27 : decode b_Mo_compareTape 27 = .ok (.baload, 1) := by decide +kernel
theorem d_Mo_compareTape_28 : decode b_Mo_compareTape 28 = .ok (.sipush 255, 3) := by decide +kernel
theorem d_Mo_compareTape_31 : decode b_Mo_compareTape 31 = .ok (.iand, 1) := by decide +kernel
theorem d_Mo_compareTape_32 : decode b_Mo_compareTape 32 = .ok (.aload_n 0, 1) := by decide +kernel
theorem d_Mo_compareTape_33 : decode b_Mo_compareTape 33 = .ok (.getfield 7, 3) := by decide +kernel
theorem d_Mo_compareTape_36 : decode b_Mo_compareTape 36 = .ok (.iload_n 3, 1) := by decide +kernel
theorem d_Mo_compareTape_37 : decode b_Mo_compareTape 37 = .ok (.baload, 1) := by decide +kernel
theorem d_Mo_compareTape_38 : decode b_Mo_compareTape 38 = .ok (.sipush 255, 3) := by decide +kernel
theorem d_Mo_compareTape_41 : decode b_Mo_compareTape 41 = .ok (.iand, 1) := by decide +kernel
theorem d_Mo_compareTape_42 : decode b_Mo_compareTape 42 = .ok (.isub, 1) := by decide +kernel
theorem d_Mo_compareTape_43 : decode b_Mo_compareTape 43 = .ok (.istore 4, 2) := by decide +kernel
theorem d_Mo_compareTape_45 : decode b_Mo_compareTape 45 = .ok (.iload 4, 2) := by decide +kernel
theorem d_Mo_compareTape_47 : decode b_Mo_compareTape 47 = .ok (.ifCond .eq 6, 3) := by decide +kernel
theorem d_Mo_compareTape_50 : decode b_Mo_compareTape 50 = .ok (.iload 4, 2) := by decide +kernel
theorem d_Mo_compareTape_52 : decode b_Mo_compareTape 52 = .ok (.ireturn, 1) := by decide +kernel
theorem d_Mo_compareTape_53 : decode b_Mo_compareTape 53 = .ok (.iinc 3 1, 3) := by decide +kernel
theorem d_Mo_compareTape_56 : decode b_Mo_compareTape 56 = .ok (.goto (-54), 3) := by decide +kernel
theorem d_Mo_compareTape_59 : decode b_Mo_compareTape 59 = .ok (.aload_n 0, 1) := by decide +kernel
theorem d_Mo_compareTape_60 : decode b_Mo_compareTape 60 = .ok (.getfield 16, 3) := by decide +kernel
theorem d_Mo_compareTape_63 : decode b_Mo_compareTape 63 = .ok (.iload_n 1, 1) := by decide +kernel
theorem d_Mo_compareTape_64 : decode b_Mo_compareTape 64 = .ok (.iaload, 1) := by decide +kernel
theorem d_Mo_compareTape_65 : decode b_Mo_compareTape 65 = .ok (.iload_n 2, 1) := by decide +kernel
theorem d_Mo_compareTape_66 : decode b_Mo_compareTape 66 = .ok (.isub, 1) := by decide +kernel
theorem d_Mo_compareTape_67 : decode b_Mo_compareTape 67 = .ok (.ireturn, 1) := by decide +kernel
def q_Mo_compareTape : List (Nat × j_S) := [(0, j_st (f_psh (.int 0)) 1),
  (1, j_so 0 3 2),
  (2, j_ld 0 3 3),
  (3, j_ld 2 0 4),
  (4, j_gf [11] 7 7),
  (7, j_ld 0 1 8),
  (8, j_al 0 9),
  (9, j_br (f_ic (fun x y => decide (y ≤ x))) 59 12),
  (12, j_ld 0 3 13),
  (13, j_ld 0 2 14),
  (14, j_br (f_ic (fun x y => decide (y ≤ x))) 59 17),
  (17, j_ld 2 0 18),
  (18, j_gf [11] 6 21),
  (21, j_st (f_psh (.int 40)) 23),
  (23, j_ld 0 1 24),
  (24, j_st (f_ii (fun a b => a * b)) 25),
  (25, j_ld 0 3 26),
  (26, j_st (f_ii (fun a b => a + b)) 27),
  (27, j_alb 28),
  (28, j_st (f_psh (.int 255)) 31),
  (31, j_st (f_ii (fun a b => a &&& b)) 32),
  (32, j_ld 2 0 33),
  (33, j_gf [11] 5 36),
  (36, j_ld 0 3 37),
  (37, j_alb 38),
  (38, j_st (f_psh (.int 255)) 41),
  (41, j_st (f_ii (fun a b => a &&& b)) 42),
  (42, j_st (f_ii (fun a b => a - b)) 43),
  (43, j_so 0 4 45),
  (45, j_ld 0 4 47),
  (47, j_br (f_if (fun x => decide (x = 0))) 53 50),
  (50, j_ld 0 4 52),
  (52, j_rt 0),
  (53, j_ic 3 1 56),
  (56, j_st f_id 2),
  (59, j_ld 2 0 60),
  (60, j_gf [11] 7 63),
  (63, j_ld 0 1 64),
  (64, j_al 0 65),
  (65, j_ld 0 2 66),
  (66, j_st (f_ii (fun a b => a - b)) 67),
  (67, j_rt 0)]
def i_Mo_compareTape : j_I := (R_Mo, b_Mo_compareTape, 5, false, (some .int), [])
def e_Mo_compareTape : j_E := ((y_Mo_compareTape, c_Mo_compareTape), i_Mo_compareTape, j_tab q_Mo_compareTape, [])
theorem o_Mo_compareTape (G : j_G) : j_mok G tm e_Mo_compareTape := ⟨by decide +kernel, Or.inl ⟨rfl, rfl⟩, rfl, (fun h => by cases h), j_tab_ok (i := i_Mo_compareTape) (l := q_Mo_compareTape) (j_all_mem ⟨r_iconst d_Mo_compareTape_0 (by decide),
  r_istore_n d_Mo_compareTape_1 rfl (by decide),
  r_iload_n d_Mo_compareTape_2 rfl,
  r_aload_n d_Mo_compareTape_3 rfl,
  r_getfield (j_all_mem ⟨⟨_, _, _, rfl, w_Mo, by decide, ⟨_, k_1255, Or.inl rfl⟩⟩, trivial⟩) d_Mo_compareTape_4,
  r_iload_n d_Mo_compareTape_7 rfl,
  r_iaload d_Mo_compareTape_8,
  r_ic_ge d_Mo_compareTape_9 (by decide),
  r_iload_n d_Mo_compareTape_12 rfl,
  r_iload_n d_Mo_compareTape_13 rfl,
  r_ic_ge d_Mo_compareTape_14 (by decide),
  r_aload_n d_Mo_compareTape_17 rfl,
  r_getfield (j_all_mem ⟨⟨_, _, _, rfl, w_Mo, by decide, ⟨_, k_1254, Or.inl rfl⟩⟩, trivial⟩) d_Mo_compareTape_18,
  r_bipush d_Mo_compareTape_21 (by decide),
  r_iload_n d_Mo_compareTape_23 rfl,
  r_imul d_Mo_compareTape_24,
  r_iload_n d_Mo_compareTape_25 rfl,
  r_iadd d_Mo_compareTape_26,
  r_baload2 d_Mo_compareTape_27,
  r_sipush d_Mo_compareTape_28 (by decide),
  r_iand d_Mo_compareTape_31,
  r_aload_n d_Mo_compareTape_32 rfl,
  r_getfield (j_all_mem ⟨⟨_, _, _, rfl, w_Mo, by decide, ⟨_, k_1252, Or.inl rfl⟩⟩, trivial⟩) d_Mo_compareTape_33,
  r_iload_n d_Mo_compareTape_36 rfl,
  r_baload2 d_Mo_compareTape_37,
  r_sipush d_Mo_compareTape_38 (by decide),
  r_iand d_Mo_compareTape_41,
  r_isub d_Mo_compareTape_42,
  r_istore d_Mo_compareTape_43 (by decide),
  r_iload d_Mo_compareTape_45,
  r_if_eq d_Mo_compareTape_47 (by decide),
  r_iload d_Mo_compareTape_50,
  r_ireturn d_Mo_compareTape_52 rfl,
  j_ok_ic d_Mo_compareTape_53 rfl (by decide) (by decide),
  r_goto d_Mo_compareTape_56 (by decide),
  r_aload_n d_Mo_compareTape_59 rfl,
  r_getfield (j_all_mem ⟨⟨_, _, _, rfl, w_Mo, by decide, ⟨_, k_1255, Or.inl rfl⟩⟩, trivial⟩) d_Mo_compareTape_60,
  r_iload_n d_Mo_compareTape_63 rfl,
  r_iaload d_Mo_compareTape_64,
  r_iload_n d_Mo_compareTape_65 rfl,
  r_isub d_Mo_compareTape_66,
  r_ireturn d_Mo_compareTape_67 rfl, trivial⟩), (fun q h => by cases h), (fun _ => rfl)⟩
theorem d_Mo_current_0 : decode b_Mo_current 0 = .ok (.aload_n 0, 1) := by decide +kernel
theorem d_Mo_current_1 : decode b_Mo_current 1 = .ok (.iconst 0, 1) := by decide +kernel
theorem d_Mo_current_2 : decode b_Mo_current 2 = .ok (.putfield 37, 3) := by decide +kernel
theorem d_Mo_current_5 : decode b_Mo_current 5 = .ok (.iload_n 1, 1) := by decide +kernel
theorem d_Mo_current_6 : decode b_Mo_current 6 = .ok (.ifCond .lt 8, 3) := by decide +kernel
theorem d_Mo_current_9 : decode b_Mo_current 9 = .ok (.iload_n 1, 1) := by decide +kernel
theorem d_Mo_current_10 : decode b_Mo_current 10 = .ok (.iconst 3, 1) := by decide +kernel
theorem d_Mo_current_11 : decode b_Mo_current 11 = .ok (.if_icmp .le 9, 3) := by decide +kernel
theorem d_Mo_current_14 : decode b_Mo_current 14 = .ok (.aload_n 0, 1) := by decide +kernel
theorem d_Mo_current_15 : decode b_Mo_current 15 = .ok (.iconst 1, 1) := by decide +kernel
theorem d_Mo_current_16 : decode b_Mo_current 16 = .ok (.invokevirtual 43, 3) := by decide +kernel
theorem d_Mo_current_19 : decode b_Mo_current 19 = .ok (.ireturn, 1) := by decide +kernel
theorem d_Mo_current_20 : decode b_Mo_current 20 = .ok (.aload_n 0, 1) := by decide +kernel
theorem d_Mo_current_21 : decode b_Mo_current 21 = .ok (.getfield 33, 3) := by decide +kernel
theorem d_Mo_current_24 : decode b_Mo_current 24 = .ok (.ifCond .ge 9, 3) := by decide +kernel
theorem d_Mo_current_27 : decode b_Mo_current 27 = .ok (.aload_n 0, 1) := by decide +kernel
theorem d_Mo_current_28 : decode b_Mo_current 28 = .ok (.iconst 2, 1) := by decide +kernel
theorem d_Mo_current_29 : decode b_Mo_current 29 = .ok (.invokevirtual 43, 3) := by decide +kernel
theorem d_Mo_current_32 : decode b_Mo_current 32 = .ok (.ireturn, 1) := by decide +kernel
theorem d_Mo_current_33 : decode b_Mo_current 33 = .ok (.iload_n 1, 1) := by decide +kernel
theorem d_Mo_current_34 : decode b_Mo_current 34 = .ok (.ifCond .ne 15, 3) := by decide +kernel
theorem d_Mo_current_37 : decode b_Mo_current 37 = .ok (.aload_n 0, 1) := by decide +kernel
theorem d_Mo_current_38 : decode b_Mo_current 38 = .ok (.getfield 20, 3) := by decide +kernel
theorem d_Mo_current_41 : decode b_Mo_current 41 = .ok (.aload_n 0, 1) := by decide +kernel
theorem d_Mo_current_42 : decode b_Mo_current 42 = .ok (.getfield 33, 3) := by decide +kernel
theorem d_Mo_current_45 : decode b_Mo_current 45 = .ok (.iaload, 1) := by decide +kernel
theorem d_Mo_current_46 : decode b_Mo_current 46 = .ok (.goto 43, 3) := by decide +kernel
theorem d_Mo_current_49 : decode b_Mo_current 49 = .ok (.iload_n 1, 1) := by decide +kernel
theorem d_Mo_current_50 : decode b_Mo_current 50 = .ok (.iconst 1, 1) := by decide +kernel
theorem d_Mo_current_51 : decode b_Mo_current 51 = .ok (.if_icmp .ne 15, 3) := by decide +kernel
theorem d_Mo_current_54 : decode b_Mo_current 54 = .ok (.aload_n 0, 1) := by decide +kernel
theorem d_Mo_current_55 : decode b_Mo_current 55 = .ok (.getfield 23, 3) := by decide +kernel
theorem d_Mo_current_58 : decode b_Mo_current 58 = .ok (.aload_n 0, 1) := by decide +kernel
theorem d_Mo_current_59 : decode b_Mo_current 59 = .ok (.getfield 33, 3) := by decide +kernel
theorem d_Mo_current_62 : decode b_Mo_current 62 = .ok (.iaload, 1) := by decide +kernel
theorem d_Mo_current_63 : decode b_Mo_current 63 = .ok (.goto 26, 3) := by decide +kernel
theorem d_Mo_current_66 : decode b_Mo_current 66 = .ok (.iload_n 1, 1) := by decide +kernel
theorem d_Mo_current_67 : decode b_Mo_current 67 = .ok (.iconst 2, 1) := by decide +kernel
theorem d_Mo_current_68 : decode b_Mo_current 68 = .ok (.if_icmp .ne 12, 3) := by decide +kernel
theorem d_Mo_current_71 : decode b_Mo_current 71 = .ok (.aload_n 0, 1) := by decide +kernel
theorem d_Mo_current_72 : decode b_Mo_current 72 = .ok (.getfield 33, 3) := by decide +kernel
theorem d_Mo_current_75 : decode b_Mo_current 75 = .ok (.iconst 1, 1) := by decide +kernel
theorem d_Mo_current_76 : decode b_Mo_current 76 = .ok (.iadd, 1) := by decide +kernel
theorem d_Mo_current_77 : decode b_Mo_current 77 = .ok (.goto 12, 3) := by decide +kernel
theorem d_Mo_current_80 : decode b_Mo_current 80 = .ok (.aload_n 0, 1) := by decide +kernel
theorem d_Mo_current_81 : decode b_Mo_current 81 = .ok (.getfield 16, 3) := by decide +kernel
theorem d_Mo_current_84 : decode b_Mo_current 84 = .ok (.aload_n 0, 1) := by decide +kernel
theorem d_Mo_current_85 : decode b_Mo_current 85 = .ok (.getfield 33, 3) := by decide +kernel
theorem d_Mo_current_88 : decode b_Mo_current 88 = .ok (.iaload, 1) := by decide +kernel
theorem d_Mo_current_89 : decode b_Mo_current 89 = .ok (.ireturn, 1) := by decide +kernel
def q_Mo_current : List (Nat × j_S) := [(0, j_ld 2 0 1),
  (1, j_st (f_psh (.int 0)) 2),
  (2, j_pf [11] 0 0 5),
  (5, j_ld 0 1 6),
  (6, j_br (f_if (fun x => decide (x < 0))) 14 9),
  (9, j_ld 0 1 10),
  (10, j_st (f_psh (.int 3)) 11),
  (11, j_br (f_ic (fun x y => decide (x ≤ y))) 20 14),
  (14, j_ld 2 0 15),
  (15, j_st (f_psh (.int 1)) 16),
  (16, j_cv [(11, 94)] 1),
  (19, j_rt 0),
  (20, j_ld 2 0 21),
  (21, j_gf [11] 4 24),
  (24, j_br (f_if (fun x => decide (0 ≤ x))) 33 27),
  (27, j_ld 2 0 28),
  (28, j_st (f_psh (.int 2)) 29),
  (29, j_cv [(11, 94)] 1),
  (32, j_rt 0),
  (33, j_ld 0 1 34),
  (34, j_br (f_if (fun x => decide (¬ x = 0))) 49 37),
  (37, j_ld 2 0 38),
  (38, j_gf [11] 8 41),
  (41, j_ld 2 0 42),
  (42, j_gf [11] 4 45),
  (45, j_al 0 46),
  (46, j_st f_id 89),
  (49, j_ld 0 1 50),
  (50, j_st (f_psh (.int 1)) 51),
  (51, j_br (f_ic (fun x y => decide (¬ x = y))) 66 54),
  (54, j_ld 2 0 55),
  (55, j_gf [11] 9 58),
  (58, j_ld 2 0 59),
  (59, j_gf [11] 4 62),
  (62, j_al 0 63),
  (63, j_st f_id 89),
  (66, j_ld 0 1 67),
  (67, j_st (f_psh (.int 2)) 68),
  (68, j_br (f_ic (fun x y => decide (¬ x = y))) 80 71),
  (71, j_ld 2 0 72),
  (72, j_gf [11] 4 75),
  (75, j_st (f_psh (.int 1)) 76),
  (76, j_st (f_ii (fun a b => a + b)) 77),
  (77, j_st f_id 89),
  (80, j_ld 2 0 81),
  (81, j_gf [11] 7 84),
  (84, j_ld 2 0 85),
  (85, j_gf [11] 4 88),
  (88, j_al 0 89),
  (89, j_rt 0)]
def i_Mo_current : j_I := (R_Mo, b_Mo_current, 2, false, (some .int), [])
def e_Mo_current : j_E := ((y_Mo_current, c_Mo_current), i_Mo_current, j_tab q_Mo_current, [])
theorem o_Mo_current (G : j_G) : j_mok G tm e_Mo_current := ⟨by decide +kernel, Or.inl ⟨rfl, rfl⟩, rfl, (fun h => by cases h), j_tab_ok (i := i_Mo_current) (l := q_Mo_current) (j_all_mem ⟨r_aload_n d_Mo_current_0 rfl,
  r_iconst d_Mo_current_1 (by decide),
  r_putfield (fin := false) (j_all_mem ⟨⟨_, _, _, t_Mo, _, rfl, w_Mo, t_Mo_ok, n_Mo, by decide, rfl, t_Mo_ok 0 (by decide), Or.inl ⟨rfl, rfl⟩, ⟨_, k_1251, Or.inl rfl⟩, (fun h => by cases h)⟩, trivial⟩) (fun h => by cases h) d_Mo_current_2,
  r_iload_n d_Mo_current_5 rfl,
  r_if_lt d_Mo_current_6 (by decide),
  r_iload_n d_Mo_current_9 rfl,
  r_iconst d_Mo_current_10 (by decide),
  r_ic_le d_Mo_current_11 (by decide),
  r_aload_n d_Mo_current_14 rfl,
  r_iconst d_Mo_current_15 (by decide),
  r_invV (j_all_mem ⟨⟨⟨_, _, _, rfl, k_1297, k_1299, kp_Mo_fail⟩, cw_Mo_fail, by decide, by decide +kernel⟩, trivial⟩) d_Mo_current_16,
  r_ireturn d_Mo_current_19 rfl,
  r_aload_n d_Mo_current_20 rfl,
  r_getfield (j_all_mem ⟨⟨_, _, _, rfl, w_Mo, by decide, ⟨_, k_1262, Or.inl rfl⟩⟩, trivial⟩) d_Mo_current_21,
  r_if_ge d_Mo_current_24 (by decide),
  r_aload_n d_Mo_current_27 rfl,
  r_iconst d_Mo_current_28 (by decide),
  r_invV (j_all_mem ⟨⟨⟨_, _, _, rfl, k_1297, k_1299, kp_Mo_fail⟩, cw_Mo_fail, by decide, by decide +kernel⟩, trivial⟩) d_Mo_current_29,
  r_ireturn d_Mo_current_32 rfl,
  r_iload_n d_Mo_current_33 rfl,
  r_if_ne d_Mo_current_34 (by decide),
  r_aload_n d_Mo_current_37 rfl,
  r_getfield (j_all_mem ⟨⟨_, _, _, rfl, w_Mo, by decide, ⟨_, k_1256, Or.inl rfl⟩⟩, trivial⟩) d_Mo_current_38,
  r_aload_n d_Mo_current_41 rfl,
  r_getfield (j_all_mem ⟨⟨_, _, _, rfl, w_Mo, by decide, ⟨_, k_1262, Or.inl rfl⟩⟩, trivial⟩) d_Mo_current_42,
  r_iaload d_Mo_current_45,
  r_goto d_Mo_current_46 (by decide),
  r_iload_n d_Mo_current_49 rfl,
  r_iconst d_Mo_current_50 (by decide),
  r_ic_ne d_Mo_current_51 (by decide),
  r_aload_n d_Mo_current_54 rfl,
  r_getfield (j_all_mem ⟨⟨_, _, _, rfl, w_Mo, by decide, ⟨_, k_1257, Or.inl rfl⟩⟩, trivial⟩) d_Mo_current_55,
  r_aload_n d_Mo_current_58 rfl,
  r_getfield (j_all_mem ⟨⟨_, _, _, rfl, w_Mo, by decide, ⟨_, k_1262, Or.inl rfl⟩⟩, trivial⟩) d_Mo_current_59,
  r_iaload d_Mo_current_62,
  r_goto d_Mo_current_63 (by decide),
  r_iload_n d_Mo_current_66 rfl,
  r_iconst d_Mo_current_67 (by decide),
  r_ic_ne d_Mo_current_68 (by decide),
  r_aload_n d_Mo_current_71 rfl,
  r_getfield (j_all_mem ⟨⟨_, _, _, rfl, w_Mo, by decide, ⟨_, k_1262, Or.inl rfl⟩⟩, trivial⟩) d_Mo_current_72,
  r_iconst d_Mo_current_75 (by decide),
  r_iadd d_Mo_current_76,
  r_goto d_Mo_current_77 (by decide),
  r_aload_n d_Mo_current_80 rfl,
  r_getfield (j_all_mem ⟨⟨_, _, _, rfl, w_Mo, by decide, ⟨_, k_1255, Or.inl rfl⟩⟩, trivial⟩) d_Mo_current_81,
  r_aload_n d_Mo_current_84 rfl,
  r_getfield (j_all_mem ⟨⟨_, _, _, rfl, w_Mo, by decide, ⟨_, k_1262, Or.inl rfl⟩⟩, trivial⟩) d_Mo_current_85,
  r_iaload d_Mo_current_88,
  r_ireturn d_Mo_current_89 rfl, trivial⟩), (fun q h => by cases h), (fun _ => rfl)⟩
theorem d_Mo_end_0 : decode b_Mo_end 0 = .ok (.aload_n 0, 1) := by decide +kernel
theorem d_Mo_end_1 : decode b_Mo_end 1 = .ok (.iconst 0, 1) := by decide +kernel
theorem d_Mo_end_2 : decode b_Mo_end 2 = .ok (.putfield 37, 3) := by decide +kernel
theorem d_Mo_end_5 : decode b_Mo_end 5 = .ok (.iload_n 1, 1) := by decide +kernel
theorem d_Mo_end_6 : decode b_Mo_end 6 = .ok (.ifCond .lt 11, 3) := by decide +kernel
theorem d_Mo_end_9 : decode b_Mo_end 9 = .ok (.iload_n 1, 1) := by decide +kernel
theorem d_Mo_end_10 : decode b_Mo_end 10 = .ok (.aload_n 0, 1) := by decide +kernel
theorem d_Mo_end_11 : decode b_Mo_end 11 = .ok (.getfield 40, 3) := by decide +kernel
theorem d_Mo_end_14 : decode b_Mo_end 14 = .ok (.if_icmp .le 9, 3) := by decide +kernel
theorem d_Mo_end_17 : decode b_Mo_end 17 = .ok (.aload_n 0, 1) := by decide +kernel
theorem d_Mo_end_18 : decode b_Mo_end 18 = .ok (.iconst 1, 1) := by decide +kernel
theorem d_Mo_end_19 : decode b_Mo_end 19 = .ok (.invokevirtual 43, 3) := by decide +kernel
theorem d_Mo_end_22 : decode b_Mo_end 22 = .ok (.ireturn, 1) := by decide +kernel
theorem d_Mo_end_23 : decode b_Mo_end 23 = .ok (.aload_n 0, 1) := by decide +kernel
theorem d_Mo_end_24 : decode b_Mo_end 24 = .ok (.iload_n 1, 1) := by decide +kernel
theorem d_Mo_end_25 : decode b_Mo_end 25 = .ok (.putfield 40, 3) := by decide +kernel
theorem d_Mo_end_28 : decode b_Mo_end 28 = .ok (.iload_n 1, 1) := by decide +kernel
theorem d_Mo_end_29 : decode b_Mo_end 29 = .ok (.ireturn, 1) := by decide +kernel
def q_Mo_end : List (Nat × j_S) := [(0, j_ld 2 0 1),
  (1, j_st (f_psh (.int 0)) 2),
  (2, j_pf [11] 0 0 5),
  (5, j_ld 0 1 6),
  (6, j_br (f_if (fun x => decide (x < 0))) 17 9),
  (9, j_ld 0 1 10),
  (10, j_ld 2 0 11),
  (11, j_gf [11] 1 14),
  (14, j_br (f_ic (fun x y => decide (x ≤ y))) 23 17),
  (17, j_ld 2 0 18),
  (18, j_st (f_psh (.int 1)) 19),
  (19, j_cv [(11, 94)] 1),
  (22, j_rt 0),
  (23, j_ld 2 0 24),
  (24, j_ld 0 1 25),
  (25, j_pf [11] 1 0 28),
  (28, j_ld 0 1 29),
  (29, j_rt 0)]
def i_Mo_end : j_I := (R_Mo, b_Mo_end, 2, false, (some .int), [])
def e_Mo_end : j_E := ((y_Mo_end, c_Mo_end), i_Mo_end, j_tab q_Mo_end, [])
theorem o_Mo_end (G : j_G) : j_mok G tm e_Mo_end := ⟨by decide +kernel, Or.inl ⟨rfl, rfl⟩, rfl, (fun h => by cases h), j_tab_ok (i := i_Mo_end) (l := q_Mo_end) (j_all_mem ⟨r_aload_n d_Mo_end_0 rfl,
  r_iconst d_Mo_end_1 (by decide),
  r_putfield (fin := false) (j_all_mem ⟨⟨_, _, _, t_Mo, _, rfl, w_Mo, t_Mo_ok, n_Mo, by decide, rfl, t_Mo_ok 0 (by decide), Or.inl ⟨rfl, rfl⟩, ⟨_, k_1251, Or.inl rfl⟩, (fun h => by cases h)⟩, trivial⟩) (fun h => by cases h) d_Mo_end_2,
  r_iload_n d_Mo_end_5 rfl,
  r_if_lt d_Mo_end_6 (by decide),
  r_iload_n d_Mo_end_9 rfl,
  r_aload_n d_Mo_end_10 rfl,
  r_getfield (j_all_mem ⟨⟨_, _, _, rfl, w_Mo, by decide, ⟨_, k_1253, Or.inl rfl⟩⟩, trivial⟩) d_Mo_end_11,
  r_ic_le d_Mo_end_14 (by decide),
  r_aload_n d_Mo_end_17 rfl,
  r_iconst d_Mo_end_18 (by decide),
  r_invV (j_all_mem ⟨⟨⟨_, _, _, rfl, k_1297, k_1299, kp_Mo_fail⟩, cw_Mo_fail, by decide, by decide +kernel⟩, trivial⟩) d_Mo_end_19,
  r_ireturn d_Mo_end_22 rfl,
  r_aload_n d_Mo_end_23 rfl,
  r_iload_n d_Mo_end_24 rfl,
  r_putfield (fin := false) (j_all_mem ⟨⟨_, _, _, t_Mo, _, rfl, w_Mo, t_Mo_ok, n_Mo, by decide, rfl, t_Mo_ok 1 (by decide), Or.inl ⟨rfl, rfl⟩, ⟨_, k_1253, Or.inl rfl⟩, (fun h => by cases h)⟩, trivial⟩) (fun h => by cases h) d_Mo_end_25,
  r_iload_n d_Mo_end_28 rfl,
  r_ireturn d_Mo_end_29 rfl, trivial⟩), (fun q h => by cases h), (fun _ => rfl)⟩
theorem d_Mo_enter_0 : decode b_Mo_enter 0 = .ok (.aload_n 0, 1) := by decide +kernel
theorem d_Mo_enter_1 : decode b_Mo_enter 1 = .ok (.getfield 40, 3) := by decide +kernel
theorem d_Mo_enter_4 : decode b_Mo_enter 4 = .ok (.istore_n 3, 1) := by decide +kernel
theorem d_Mo_enter_5 : decode b_Mo_enter 5 = .ok (.aload_n 0, 1) := by decide +kernel
theorem d_Mo_enter_6 : decode b_Mo_enter 6 = .ok (.iconst 0, 1) := by decide +kernel
theorem d_Mo_enter_7 : decode b_Mo_enter 7 = .ok (.putfield 40, 3) := by decide +kernel
theorem d_Mo_enter_10 : decode b_Mo_enter 10 = .ok (.aload_n 0, 1) := by decide +kernel
theorem d_Mo_enter_11 : decode b_Mo_enter 11 = .ok (.getfield 47, 3) := by decide +kernel
theorem d_Mo_enter_14 : decode b_Mo_enter 14 = .ok (.sipush 500, 3) := by decide +kernel
theorem d_Mo_enter_17 : decode b_Mo_enter 17 = .ok (.if_icmp .ne 9, 3) := by decide +kernel
theorem d_Mo_enter_20 : decode b_Mo_enter 20 = .ok (.aload_n 0, 1) := by decide +kernel
theorem d_Mo_enter_21 : decode b_Mo_enter 21 = .ok (.iconst 2, 1) := by decide +kernel
theorem d_Mo_enter_22 : decode b_Mo_enter 22 = .ok (.invokevirtual 43, 3) := by decide +kernel
theorem d_Mo_enter_25 : decode b_Mo_enter 25 = .ok (.ireturn, 1) := by decide +kernel
theorem d_Mo_enter_26 : decode b_Mo_enter 26 = .ok (.aload_n 0, 1) := by decide +kernel
theorem d_Mo_enter_27 : decode b_Mo_enter 27 = .ok (.getfield 47, 3) := by decide +kernel
theorem d_Mo_enter_30 : decode b_Mo_enter 30 = .ok (.iconst 1, 1) := by decide +kernel
theorem d_Mo_enter_31 : decode b_Mo_enter 31 = .ok (.isub, 1) := by decide +kernel
theorem d_Mo_enter_32 : decode b_Mo_enter 32 = .ok (.istore 4, 2) := by decide +kernel
theorem d_Mo_enter_34 : decode b_Mo_enter 34 = .ok (.iload 4, 2) := by decide +kernel
theorem d_Mo_enter_36 : decode b_Mo_enter 36 = .ok (.ifCond .lt 19, 3) := by decide +kernel
theorem d_Mo_enter_39 : decode b_Mo_enter 39 = .ok (.aload_n 0, 1) := by decide +kernel
theorem d_Mo_enter_40 : decode b_Mo_enter 40 = .ok (.iload 4, 2) := by decide +kernel
theorem d_Mo_enter_42 : decode b_Mo_enter 42 = .ok (.iload_n 3, 1) := by decide +kernel
theorem d_Mo_enter_43 : decode b_Mo_enter 43 = .ok (.invokevirtual 50, 3) := by decide +kernel
theorem d_Mo_enter_46 : decode b_Mo_enter 46 = .ok (.ifCond .eq 9, 3) := by decide +kernel
theorem d_Mo_enter_49 : decode b_Mo_enter 49 = .ok (.iinc 4 (-1), 3) := by decide +kernel
theorem d_Mo_enter_52 : decode b_Mo_enter 52 = .ok (.goto (-18), 3) := by decide +kernel
theorem d_Mo_enter_55 : decode b_Mo_enter 55 = .ok (.aload_n 0, 1) := by decide +kernel
theorem d_Mo_enter_56 : decode b_Mo_enter 56 = .ok (.dup, 1) := by decide +kernel
theorem d_Mo_enter_57 : decode b_Mo_enter 57 = .ok (.getfield 54, 3) := by decide +kernel
theorem d_Mo_enter_60 : decode b_Mo_enter 60 = .ok (.iload_n 2, 1) := by decide +kernel
theorem d_Mo_enter_61 : decode b_Mo_enter 61 = .ok (.ifCond .lt 7, 3) := by decide +kernel
theorem d_Mo_enter_64 : decode b_Mo_enter 64 = .ok (.iconst 1, 1) := by decide +kernel
theorem d_Mo_enter_65 : decode b_Mo_enter 65 = .ok (.goto 4, 3) := by decide +kernel
theorem d_Mo_enter_68 : decode b_Mo_enter 68 = .ok (.iconst 0, 1) := by decide +kernel
theorem d_Mo_enter_69 : decode b_Mo_enter 69 = .ok (.iload 4, 2) := by decide +kernel
theorem d_Mo_enter_71 : decode b_Mo_enter 71 = .ok (.ifCond .lt 17, 3) := by decide +kernel
theorem d_Mo_enter_74 : decode b_Mo_enter 74 = .ok (.aload_n 0, 1) := by decide +kernel
theorem d_Mo_enter_75 : decode b_Mo_enter 75 = .ok (.getfield 23, 3) := by decide +kernel
theorem d_Mo_enter_78 : decode b_Mo_enter 78 = .ok (.iload 4, 2) := by decide +kernel
theorem d_Mo_enter_80 : decode b_Mo_enter 80 = .ok (.iaload, 1) := by decide +kernel
theorem d_Mo_enter_81 : decode b_Mo_enter 81 = .ok (.ifCond .lt 7, 3) := by decide +kernel
theorem d_Mo_enter_84 : decode b_Mo_enter 84 = .ok (.iconst 1, 1) := by decide +kernel
theorem d_Mo_enter_85 : decode b_Mo_enter 85 = .ok (.goto 4, 3) := by decide +kernel
theorem d_Mo_enter_88 : decode b_Mo_enter 88 = .ok (.iconst 0, 1) := by decide +kernel
theorem d_Mo_enter_89 : decode b_Mo_enter 89 = .ok (.isub, 1) := by decide +kernel
theorem d_Mo_enter_90 : decode b_Mo_enter 90 = .ok (.iadd, 1) := by decide +kernel
theorem d_Mo_enter_91 : decode b_Mo_enter 91 = .ok (.putfield 54, 3) := by decide +kernel
theorem d_Mo_enter_94 : decode b_Mo_enter 94 = .ok (.iconst 0, 1) := by decide +kernel
theorem d_Mo_enter_95 : decode b_Mo_enter 95 = .ok (.istore 5, 2) := by decide +kernel
theorem d_Mo_enter_97 : decode b_Mo_enter 97 = .ok (.iload 5, 2) := by decide +kernel
theorem d_Mo_enter_99 : decode b_Mo_enter 99 = .ok (.iload_n 3, 1) := by decide +kernel
theorem d_Mo_enter_100 : decode b_Mo_enter 100 = .ok (.if_icmp .ge 31, 3) := by decide +kernel
theorem d_Mo_enter_103 : decode b_Mo_enter 103 = .ok (.aload_n 0, 1) := by decide +kernel
theorem d_Mo_enter_104 : decode b_Mo_enter 104 = .ok (.getfield 13, 3) := by decide +kernel
theorem d_Mo_enter_107 : decode b_Mo_enter 107 = .ok (.bipush 40, 2) := by decide +kernel
theorem d_Mo_enter_109 : decode b_Mo_enter 109 = .ok (.aload_n 0, 1) := by decide +kernel
theorem d_Mo_enter_110 : decode b_Mo_enter 110 = .ok (.getfield 47, 3) := by decide +kernel
theorem d_Mo_enter_113 : decode b_Mo_enter 113 = .ok (.imul, 1) := by decide +kernel
theorem d_Mo_enter_114 : decode b_Mo_enter 114 = .ok (.iload 5, 2) := by decide +kernel
theorem d_Mo_enter_116 : decode b_Mo_enter 116 = .ok (.iadd, 1) := by decide +kernel
theorem d_Mo_enter_117 : decode b_Mo_enter 117 = .ok (.aload_n 0, 1) := by decide +kernel
theorem d_Mo_enter_118 : decode b_Mo_enter 118 = .ok (.getfield 7, 3) := by decide +kernel
theorem d_Mo_enter_121 : decode b_Mo_enter 121 = .ok (.iload 5, 2) := by decide +kernel
theorem d_Mo_enter_123 : decode b_Mo_enter 123 = .ok (.baload, 1) := by decide +kernel
theorem d_Mo_enter_124 : decode b_Mo_enter 124 = .ok (.bastore, 1) := by decide +kernel
theorem d_Mo_enter_125 : decode b_Mo_enter 125 = .ok (.iinc 5 1, 3) := by decide +kernel
theorem d_Mo_enter_128 : decode b_Mo_enter 128 = .ok (.goto (-31), 3) := by decide +kernel
theorem d_Mo_enter_131 : decode b_Mo_enter 131 = .ok (.aload_n 0, 1) := by decide +kernel
theorem d_Mo_enter_132 : decode b_Mo_enter 132 = .ok (.getfield 16, 3) := by decide +kernel
theorem d_Mo_enter_135 : decode b_Mo_enter 135 = .ok (.aload_n 0, 1) := by decide +kernel
theorem d_Mo_enter_136 : decode b_Mo_enter 136 = .ok (.getfield 47, 3) := by decide +kernel
theorem d_Mo_enter_139 : decode b_Mo_enter 139 = .ok (.iload_n 3, 1) := by decide +kernel
theorem d_Mo_enter_140 : decode b_Mo_enter 140 = .ok (.iastore, 1) := by decide +kernel
theorem d_Mo_enter_141 : decode b_Mo_enter 141 = .ok (.aload_n 0, 1) := by decide +kernel
theorem d_Mo_enter_142 : decode b_Mo_enter 142 = .ok (.getfield 20, 3) := by decide +kernel
theorem d_Mo_enter_145 : decode b_Mo_enter 145 = .ok (.aload_n 0, 1) := by decide +kernel
theorem d_Mo_enter_146 : decode b_Mo_enter 146 = .ok (.getfield 47, 3) := by decide +kernel
theorem d_Mo_enter_149 : decode b_Mo_enter 149 = .ok (.iload_n 1, 1) := by decide +kernel
theorem d_Mo_enter_150 : decode b_Mo_enter 150 = .ok (.iastore, 1) := by decide +kernel
theorem d_Mo_enter_151 : decode b_Mo_enter 151 = .ok (.aload_n 0, 1) := by decide +kernel
theorem d_Mo_enter_152 : decode b_Mo_enter 152 = .ok (.getfield 23, 3) := by decide +kernel
theorem d_Mo_enter_155 : decode b_Mo_enter 155 = .ok (.aload_n 0, 1) := by decide +kernel
theorem d_Mo_enter_156 : decode b_Mo_enter 156 = .ok (.getfield 47, 3) := by decide +kernel
theorem d_Mo_enter_159 : decode b_Mo_enter 159 = .ok (.iload_n 2, 1) := by decide +kernel
theorem d_Mo_enter_160 : decode b_Mo_enter 160 = .ok (.iastore, 1) := by decide +kernel
theorem d_Mo_enter_161 : decode b_Mo_enter 161 = .ok (.aload_n 0, 1) := by decide +kernel
theorem d_Mo_enter_162 : decode b_Mo_enter 162 = .ok (.dup, 1) := by decide +kernel
theorem d_Mo_enter_163 : decode b_Mo_enter 163 = .ok (.getfield 47, 3) := by decide +kernel
theorem d_Mo_enter_166 : decode b_Mo_enter 166 = .ok (.iconst 1, 1) := by decide +kernel
theorem d_Mo_enter_167 : decode b_Mo_enter 167 = .ok (.iadd, 1) := by decide +kernel
theorem d_Mo_enter_168 : decode b_Mo_enter 168 = .ok (.putfield 47, 3) := by decide +kernel
theorem d_Mo_enter_171 : decode b_Mo_enter 171 = .ok (.aload_n 0, 1) := by decide +kernel
theorem d_Mo_enter_172 : decode b_Mo_enter 172 = .ok (.getfield 47, 3) := by decide +kernel
theorem d_Mo_enter_175 : decode b_Mo_enter 175 = .ok (.ireturn, 1) := by decide +kernel
def q_Mo_enter : List (Nat × j_S) := [(0, j_ld 2 0 1),
  (1, j_gf [11] 1 4),
  (4, j_so 0 3 5),
  (5, j_ld 2 0 6),
  (6, j_st (f_psh (.int 0)) 7),
  (7, j_pf [11] 1 0 10),
  (10, j_ld 2 0 11),
  (11, j_gf [11] 2 14),
  (14, j_st (f_psh (.int 500)) 17),
  (17, j_br (f_ic (fun x y => decide (¬ x = y))) 26 20),
  (20, j_ld 2 0 21),
  (21, j_st (f_psh (.int 2)) 22),
  (22, j_cv [(11, 94)] 1),
  (25, j_rt 0),
  (26, j_ld 2 0 27),
  (27, j_gf [11] 2 30),
  (30, j_st (f_psh (.int 1)) 31),
  (31, j_st (f_ii (fun a b => a - b)) 32),
  (32, j_so 0 4 34),
  (34, j_ld 0 4 36),
  (36, j_br (f_if (fun x => decide (x < 0))) 55 39),
  (39, j_ld 2 0 40),
  (40, j_ld 0 4 42),
  (42, j_ld 0 3 43),
  (43, j_cv [(11, 90)] 2),
  (46, j_br (f_if (fun x => decide (x = 0))) 55 49),
  (49, j_ic 4 (-1) 52),
  (52, j_st f_id 34),
  (55, j_ld 2 0 56),
  (56, j_st (f_dup) 57),
  (57, j_gf [11] 3 60),
  (60, j_ld 0 2 61),
  (61, j_br (f_if (fun x => decide (x < 0))) 68 64),
  (64, j_st (f_psh (.int 1)) 65),
  (65, j_st f_id 69),
  (68, j_st (f_psh (.int 0)) 69),
  (69, j_ld 0 4 71),
  (71, j_br (f_if (fun x => decide (x < 0))) 88 74),
  (74, j_ld 2 0 75),
  (75, j_gf [11] 9 78),
  (78, j_ld 0 4 80),
  (80, j_al 0 81),
  (81, j_br (f_if (fun x => decide (x < 0))) 88 84),
  (84, j_st (f_psh (.int 1)) 85),
  (85, j_st f_id 89),
  (88, j_st (f_psh (.int 0)) 89),
  (89, j_st (f_ii (fun a b => a - b)) 90),
  (90, j_st (f_ii (fun a b => a + b)) 91),
  (91, j_pf [11] 3 0 94),
  (94, j_st (f_psh (.int 0)) 95),
  (95, j_so 0 5 97),
  (97, j_ld 0 5 99),
  (99, j_ld 0 3 100),
  (100, j_br (f_ic (fun x y => decide (y ≤ x))) 131 103),
  (103, j_ld 2 0 104),
  (104, j_gf [11] 6 107),
  (107, j_st (f_psh (.int 40)) 109),
  (109, j_ld 2 0 110),
  (110, j_gf [11] 2 113),
  (113, j_st (f_ii (fun a b => a * b)) 114),
  (114, j_ld 0 5 116),
  (116, j_st (f_ii (fun a b => a + b)) 117),
  (117, j_ld 2 0 118),
  (118, j_gf [11] 5 121),
  (121, j_ld 0 5 123),
  (123, j_alb 124),
  (124, j_abz 125),
  (125, j_ic 5 1 128),
  (128, j_st f_id 97),
  (131, j_ld 2 0 132),
  (132, j_gf [11] 7 135),
  (135, j_ld 2 0 136),
  (136, j_gf [11] 2 139),
  (139, j_ld 0 3 140),
  (140, j_ai 141),
  (141, j_ld 2 0 142),
  (142, j_gf [11] 8 145),
  (145, j_ld 2 0 146),
  (146, j_gf [11] 2 149),
  (149, j_ld 0 1 150),
  (150, j_ai 151),
  (151, j_ld 2 0 152),
  (152, j_gf [11] 9 155),
  (155, j_ld 2 0 156),
  (156, j_gf [11] 2 159),
  (159, j_ld 0 2 160),
  (160, j_ai 161),
  (161, j_ld 2 0 162),
  (162, j_st (f_dup) 163),
  (163, j_gf [11] 2 166),
  (166, j_st (f_psh (.int 1)) 167),
  (167, j_st (f_ii (fun a b => a + b)) 168),
  (168, j_pf [11] 2 0 171),
  (171, j_ld 2 0 172),
  (172, j_gf [11] 2 175),
  (175, j_rt 0)]
def i_Mo_enter : j_I := (R_Mo, b_Mo_enter, 6, false, (some .int), [])
def e_Mo_enter : j_E := ((y_Mo_enter, c_Mo_enter), i_Mo_enter, j_tab q_Mo_enter, [])
theorem o_Mo_enter (G : j_G) : j_mok G tm e_Mo_enter := ⟨by decide +kernel, Or.inl ⟨rfl, rfl⟩, rfl, (fun h => by cases h), j_tab_ok (i := i_Mo_enter) (l := q_Mo_enter) (j_all_mem ⟨r_aload_n d_Mo_enter_0 rfl,
  r_getfield (j_all_mem ⟨⟨_, _, _, rfl, w_Mo, by decide, ⟨_, k_1253, Or.inl rfl⟩⟩, trivial⟩) d_Mo_enter_1,
  r_istore_n d_Mo_enter_4 rfl (by decide),
  r_aload_n d_Mo_enter_5 rfl,
  r_iconst d_Mo_enter_6 (by decide),
  r_putfield (fin := false) (j_all_mem ⟨⟨_, _, _, t_Mo, _, rfl, w_Mo, t_Mo_ok, n_Mo, by decide, rfl, t_Mo_ok 1 (by decide), Or.inl ⟨rfl, rfl⟩, ⟨_, k_1253, Or.inl rfl⟩, (fun h => by cases h)⟩, trivial⟩) (fun h => by cases h) d_Mo_enter_7,
  r_aload_n d_Mo_enter_10 rfl,
  r_getfield (j_all_mem ⟨⟨_, _, _, rfl, w_Mo, by decide, ⟨_, k_1258, Or.inl rfl⟩⟩, trivial⟩) d_Mo_enter_11,
  r_sipush d_Mo_enter_14 (by decide),
  r_ic_ne d_Mo_enter_17 (by decide),
  r_aload_n d_Mo_enter_20 rfl,
  r_iconst d_Mo_enter_21 (by decide),
  r_invV (j_all_mem ⟨⟨⟨_, _, _, rfl, k_1297, k_1299, kp_Mo_fail⟩, cw_Mo_fail, by decide, by decide +kernel⟩, trivial⟩) d_Mo_enter_22,
  r_ireturn d_Mo_enter_25 rfl,
  r_aload_n d_Mo_enter_26 rfl,
  r_getfield (j_all_mem ⟨⟨_, _, _, rfl, w_Mo, by decide, ⟨_, k_1258, Or.inl rfl⟩⟩, trivial⟩) d_Mo_enter_27,
  r_iconst d_Mo_enter_30 (by decide),
  r_isub d_Mo_enter_31,
  r_istore d_Mo_enter_32 (by decide),
  r_iload d_Mo_enter_34,
  r_if_lt d_Mo_enter_36 (by decide),
  r_aload_n d_Mo_enter_39 rfl,
  r_iload d_Mo_enter_40,
  r_iload_n d_Mo_enter_42 rfl,
  r_invV (j_all_mem ⟨⟨⟨_, _, _, rfl, k_1317, k_1319, kp_Mo_compareTape⟩, cw_Mo_compareTape, by decide, by decide +kernel⟩, trivial⟩) d_Mo_enter_43,
  r_if_eq d_Mo_enter_46 (by decide),
  j_ok_ic d_Mo_enter_49 rfl (by decide) (by decide),
  r_goto d_Mo_enter_52 (by decide),
  r_aload_n d_Mo_enter_55 rfl,
  r_dup d_Mo_enter_56,
  r_getfield (j_all_mem ⟨⟨_, _, _, rfl, w_Mo, by decide, ⟨_, k_1259, Or.inl rfl⟩⟩, trivial⟩) d_Mo_enter_57,
  r_iload_n d_Mo_enter_60 rfl,
  r_if_lt d_Mo_enter_61 (by decide),
  r_iconst d_Mo_enter_64 (by decide),
  r_goto d_Mo_enter_65 (by decide),
  r_iconst d_Mo_enter_68 (by decide),
  r_iload d_Mo_enter_69,
  r_if_lt d_Mo_enter_71 (by decide),
  r_aload_n d_Mo_enter_74 rfl,
  r_getfield (j_all_mem ⟨⟨_, _, _, rfl, w_Mo, by decide, ⟨_, k_1257, Or.inl rfl⟩⟩, trivial⟩) d_Mo_enter_75,
  r_iload d_Mo_enter_78,
  r_iaload d_Mo_enter_80,
  r_if_lt d_Mo_enter_81 (by decide),
  r_iconst d_Mo_enter_84 (by decide),
  r_goto d_Mo_enter_85 (by decide),
  r_iconst d_Mo_enter_88 (by decide),
  r_isub d_Mo_enter_89,
  r_iadd d_Mo_enter_90,
  r_putfield (fin := false) (j_all_mem ⟨⟨_, _, _, t_Mo, _, rfl, w_Mo, t_Mo_ok, n_Mo, by decide, rfl, t_Mo_ok 3 (by decide), Or.inl ⟨rfl, rfl⟩, ⟨_, k_1259, Or.inl rfl⟩, (fun h => by cases h)⟩, trivial⟩) (fun h => by cases h) d_Mo_enter_91,
  r_iconst d_Mo_enter_94 (by decide),
  r_istore d_Mo_enter_95 (by decide),
  r_iload d_Mo_enter_97,
  r_iload_n d_Mo_enter_99 rfl,
  r_ic_ge d_Mo_enter_100 (by decide),
  r_aload_n d_Mo_enter_103 rfl,
  r_getfield (j_all_mem ⟨⟨_, _, _, rfl, w_Mo, by decide, ⟨_, k_1254, Or.inl rfl⟩⟩, trivial⟩) d_Mo_enter_104,
  r_bipush d_Mo_enter_107 (by decide),
  r_aload_n d_Mo_enter_109 rfl,
  r_getfield (j_all_mem ⟨⟨_, _, _, rfl, w_Mo, by decide, ⟨_, k_1258, Or.inl rfl⟩⟩, trivial⟩) d_Mo_enter_110,
  r_imul d_Mo_enter_113,
  r_iload d_Mo_enter_114,
  r_iadd d_Mo_enter_116,
  r_aload_n d_Mo_enter_117 rfl,
  r_getfield (j_all_mem ⟨⟨_, _, _, rfl, w_Mo, by decide, ⟨_, k_1252, Or.inl rfl⟩⟩, trivial⟩) d_Mo_enter_118,
  r_iload d_Mo_enter_121,
  r_baload2 d_Mo_enter_123,
  r_bastore2 d_Mo_enter_124,
  j_ok_ic d_Mo_enter_125 rfl (by decide) (by decide),
  r_goto d_Mo_enter_128 (by decide),
  r_aload_n d_Mo_enter_131 rfl,
  r_getfield (j_all_mem ⟨⟨_, _, _, rfl, w_Mo, by decide, ⟨_, k_1255, Or.inl rfl⟩⟩, trivial⟩) d_Mo_enter_132,
  r_aload_n d_Mo_enter_135 rfl,
  r_getfield (j_all_mem ⟨⟨_, _, _, rfl, w_Mo, by decide, ⟨_, k_1258, Or.inl rfl⟩⟩, trivial⟩) d_Mo_enter_136,
  r_iload_n d_Mo_enter_139 rfl,
  r_iastore d_Mo_enter_140,
  r_aload_n d_Mo_enter_141 rfl,
  r_getfield (j_all_mem ⟨⟨_, _, _, rfl, w_Mo, by decide, ⟨_, k_1256, Or.inl rfl⟩⟩, trivial⟩) d_Mo_enter_142,
  r_aload_n d_Mo_enter_145 rfl,
  r_getfield (j_all_mem ⟨⟨_, _, _, rfl, w_Mo, by decide, ⟨_, k_1258, Or.inl rfl⟩⟩, trivial⟩) d_Mo_enter_146,
  r_iload_n d_Mo_enter_149 rfl,
  r_iastore d_Mo_enter_150,
  r_aload_n d_Mo_enter_151 rfl,
  r_getfield (j_all_mem ⟨⟨_, _, _, rfl, w_Mo, by decide, ⟨_, k_1257, Or.inl rfl⟩⟩, trivial⟩) d_Mo_enter_152,
  r_aload_n d_Mo_enter_155 rfl,
  r_getfield (j_all_mem ⟨⟨_, _, _, rfl, w_Mo, by decide, ⟨_, k_1258, Or.inl rfl⟩⟩, trivial⟩) d_Mo_enter_156,
  r_iload_n d_Mo_enter_159 rfl,
  r_iastore d_Mo_enter_160,
  r_aload_n d_Mo_enter_161 rfl,
  r_dup d_Mo_enter_162,
  r_getfield (j_all_mem ⟨⟨_, _, _, rfl, w_Mo, by decide, ⟨_, k_1258, Or.inl rfl⟩⟩, trivial⟩) d_Mo_enter_163,
  r_iconst d_Mo_enter_166 (by decide),
  r_iadd d_Mo_enter_167,
  r_putfield (fin := false) (j_all_mem ⟨⟨_, _, _, t_Mo, _, rfl, w_Mo, t_Mo_ok, n_Mo, by decide, rfl, t_Mo_ok 2 (by decide), Or.inl ⟨rfl, rfl⟩, ⟨_, k_1258, Or.inl rfl⟩, (fun h => by cases h)⟩, trivial⟩) (fun h => by cases h) d_Mo_enter_168,
  r_aload_n d_Mo_enter_171 rfl,
  r_getfield (j_all_mem ⟨⟨_, _, _, rfl, w_Mo, by decide, ⟨_, k_1258, Or.inl rfl⟩⟩, trivial⟩) d_Mo_enter_172,
  r_ireturn d_Mo_enter_175 rfl, trivial⟩), (fun q h => by cases h), (fun _ => rfl)⟩
theorem d_Mo_fail_0 : decode b_Mo_fail 0 = .ok (.aload_n 0, 1) := by decide +kernel
theorem d_Mo_fail_1 : decode b_Mo_fail 1 = .ok (.iload_n 1, 1) := by decide +kernel
theorem d_Mo_fail_2 : decode b_Mo_fail 2 = .ok (.putfield 37, 3) := by decide +kernel
theorem d_Mo_fail_5 : decode b_Mo_fail 5 = .ok (.iconst 0, 1) := by decide +kernel
theorem d_Mo_fail_6 : decode b_Mo_fail 6 = .ok (.ireturn, 1) := by decide +kernel
def q_Mo_fail : List (Nat × j_S) := [(0, j_ld 2 0 1),
  (1, j_ld 0 1 2),
  (2, j_pf [11] 0 0 5),
  (5, j_st (f_psh (.int 0)) 6),
  (6, j_rt 0)]
def i_Mo_fail : j_I := (R_Mo, b_Mo_fail, 2, false, (some .int), [])
def e_Mo_fail : j_E := ((y_Mo_fail, c_Mo_fail), i_Mo_fail, j_tab q_Mo_fail, [])
theorem o_Mo_fail (G : j_G) : j_mok G tm e_Mo_fail := ⟨by decide +kernel, Or.inl ⟨rfl, rfl⟩, rfl, (fun h => by cases h), j_tab_ok (i := i_Mo_fail) (l := q_Mo_fail) (j_all_mem ⟨r_aload_n d_Mo_fail_0 rfl,
  r_iload_n d_Mo_fail_1 rfl,
  r_putfield (fin := false) (j_all_mem ⟨⟨_, _, _, t_Mo, _, rfl, w_Mo, t_Mo_ok, n_Mo, by decide, rfl, t_Mo_ok 0 (by decide), Or.inl ⟨rfl, rfl⟩, ⟨_, k_1251, Or.inl rfl⟩, (fun h => by cases h)⟩, trivial⟩) (fun h => by cases h) d_Mo_fail_2,
  r_iconst d_Mo_fail_5 (by decide),
  r_ireturn d_Mo_fail_6 rfl, trivial⟩), (fun q h => by cases h), (fun _ => rfl)⟩
theorem d_Mo_feed_0 : decode b_Mo_feed 0 = .ok (.aload_n 0, 1) := by decide +kernel
theorem d_Mo_feed_1 : decode b_Mo_feed 1 = .ok (.iconst 0, 1) := by decide +kernel
theorem d_Mo_feed_2 : decode b_Mo_feed 2 = .ok (.putfield 37, 3) := by decide +kernel
theorem d_Mo_feed_5 : decode b_Mo_feed 5 = .ok (.aload_n 0, 1) := by decide +kernel
theorem d_Mo_feed_6 : decode b_Mo_feed 6 = .ok (.getfield 40, 3) := by decide +kernel
theorem d_Mo_feed_9 : decode b_Mo_feed 9 = .ok (.bipush 20, 2) := by decide +kernel
theorem d_Mo_feed_11 : decode b_Mo_feed 11 = .ok (.iadd, 1) := by decide +kernel
theorem d_Mo_feed_12 : decode b_Mo_feed 12 = .ok (.bipush 60, 2) := by decide +kernel
theorem d_Mo_feed_14 : decode b_Mo_feed 14 = .ok (.if_icmp .le 9, 3) := by decide +kernel
theorem d_Mo_feed_17 : decode b_Mo_feed 17 = .ok (.aload_n 0, 1) := by decide +kernel
theorem d_Mo_feed_18 : decode b_Mo_feed 18 = .ok (.iconst 1, 1) := by decide +kernel
theorem d_Mo_feed_19 : decode b_Mo_feed 19 = .ok (.invokevirtual 43, 3) := by decide +kernel
theorem d_Mo_feed_22 : decode b_Mo_feed 22 = .ok (.ireturn, 1) := by decide +kernel
theorem d_Mo_feed_23 : decode b_Mo_feed 23 = .ok (.iconst 0, 1) := by decide +kernel
theorem d_Mo_feed_24 : decode b_Mo_feed 24 = .ok (.istore 6, 2) := by decide +kernel
theorem d_Mo_feed_26 : decode b_Mo_feed 26 = .ok (.iload 6, 2) := by decide +kernel
theorem d_Mo_feed_28 : decode b_Mo_feed 28 = .ok (.bipush 20, 2) := by decide +kernel
theorem d_Mo_feed_30 : decode b_Mo_feed 30 = .ok (.if_icmp .ge 90, 3) := by decide +kernel
theorem d_Mo_feed_33 : decode b_Mo_feed 33 = .ok (.iload 6, 2) := by decide +kernel
theorem d_Mo_feed_35 : decode b_Mo_feed 35 = .ok (.iconst 4, 1) := by decide +kernel
theorem d_Mo_feed_36 : decode b_Mo_feed 36 = .ok (.if_icmp .ge 7, 3) := by decide +kernel
theorem d_Mo_feed_39 : decode b_Mo_feed 39 = .ok (.iload_n 1, 1) := by decide +kernel
theorem d_Mo_feed_40 : decode b_Mo_feed 40 = .ok (.goto 39, 3) := by decide +kernel
theorem d_Mo_feed_43 : decode b_Mo_feed 43 = .ok (.iload 6, 2) := by decide +kernel
theorem d_Mo_feed_45 : decode b_Mo_feed 45 = .ok (.bipush 8, 2) := by decide +kernel
theorem d_Mo_feed_47 : decode b_Mo_feed 47 = .ok (.if_icmp .ge 7, 3) := by decide +kernel
theorem d_Mo_feed_50 : decode b_Mo_feed 50 = .ok (.iload_n 2, 1) := by decide +kernel
theorem d_Mo_feed_51 : decode b_Mo_feed 51 = .ok (.goto 28, 3) := by decide +kernel
theorem d_Mo_feed_54 : decode b_Mo_feed 54 = .ok (.iload 6, 2) := by decide +kernel
theorem d_Mo_feed_56 : decode b_Mo_feed 56 = .ok (.bipush 12, 2) := by decide +kernel
theorem d_Mo_feed_58 : decode b_Mo_feed 58 = .ok (.if_icmp .ge 7, 3) := by decide +kernel
theorem d_Mo_feed_61 : decode b_Mo_feed 61 = .ok (.iload_n 3, 1) := by decide +kernel
theorem d_Mo_feed_62 : decode b_Mo_feed 62 = .ok (.goto 17, 3) := by decide +kernel
theorem d_Mo_feed_65 : decode b_Mo_feed 65 = .ok (.iload 6, 2) := by decide +kernel
theorem d_Mo_feed_67 : decode b_Mo_feed 67 = .ok (.bipush 16, 2) := by decide +kernel
theorem d_Mo_feed_69 : decode b_Mo_feed 69 = .ok (.if_icmp .ge 8, 3) := by decide +kernel
theorem d_Mo_feed_72 : decode b_Mo_feed 72 = .ok (.iload 4, 2) := by decide +kernel
theorem d_Mo_feed_74 : decode b_Mo_feed 74 = .ok (.goto 5, 3) := by decide +kernel
theorem d_Mo_feed_77 : decode b_Mo_feed 77 = .ok (.iload 5, 2) := by decide +kernel
theorem d_Mo_feed_79 : decode b_Mo_feed 79 = .ok (.istore 7, 2) := by decide +kernel
theorem d_Mo_feed_81 : decode b_Mo_feed 81 = .ok (.aload_n 0, 1) := by decide +kernel
theorem d_Mo_feed_82 : decode b_Mo_feed 82 = .ok (.getfield 7, 3) := by decide +kernel
theorem d_Mo_feed_85 : decode b_Mo_feed 85 = .ok (.aload_n 0, 1) := by decide +kernel
theorem d_Mo_feed_86 : decode b_Mo_feed 86 = .ok (.getfield 40, 3) := by decide +kernel
theorem d_Mo_feed_89 : decode b_Mo_feed 89 = .ok (.iload 7, 2) := by decide +kernel
theorem d_Mo_feed_91 : decode b_Mo_feed 91 = .ok (.bipush 24, 2) := by decide +kernel
theorem d_Mo_feed_93 : decode b_Mo_feed 93 = .ok (.bipush 8, 2) := by decide +kernel
theorem d_Mo_feed_95 : decode b_Mo_feed 95 = .ok (.iload 6, 2) := by decide +kernel
theorem d_Mo_feed_97 : decode b_Mo_feed 97 = .ok (.iconst 4, 1) := by decide +kernel
theorem d_Mo_feed_98 : decode b_Mo_feed 98 = .ok (.irem, 1) := by decide +kernel
theorem d_Mo_feed_99 : decode b_Mo_feed 99 = .ok (.imul, 1) := by decide +kernel
theorem d_Mo_feed_100 : decode b_Mo_feed 100 = .ok (.isub, 1) := by decide +kernel
theorem d_Mo_feed_101 : decode b_Mo_feed 101 = .ok (.ishr, 1) := by decide +kernel
theorem d_Mo_feed_102 : decode b_Mo_feed 102 = .ok (.i2b, 1) := by decide +kernel
theorem d_Mo_feed_103 : decode b_Mo_feed 103 = .ok (.bastore, 1) := by decide +kernel
theorem d_Mo_feed_104 : decode b_Mo_feed 104 = .ok (.aload_n 0, 1) := by decide +kernel
theorem d_Mo_feed_105 : decode b_Mo_feed 105 = .ok (.dup, 1) := by decide +kernel
theorem d_Mo_feed_106 : decode b_Mo_feed 106 = .ok (.getfield 40, 3) := by decide +kernel
theorem d_Mo_feed_109 : decode b_Mo_feed 109 = .ok (.iconst 1, 1) := by decide +kernel
theorem d_Mo_feed_110 : decode b_Mo_feed 110 = .ok (.iadd, 1) := by decide +kernel
theorem d_Mo_feed_111 : decode b_Mo_feed 111 = .ok (.putfield 40, 3) := by decide +kernel
theorem d_Mo_feed_114 : decode b_Mo_feed 114 = .ok (.iinc 6 1, 3) := by decide +kernel
theorem d_Mo_feed_117 : decode b_Mo_feed 117 = .ok (.goto (-91), 3) := by decide +kernel
theorem d_Mo_feed_120 : decode b_Mo_feed 120 = .ok (.aload_n 0, 1) := by decide +kernel
theorem d_Mo_feed_121 : decode b_Mo_feed 121 = .ok (.getfield 40, 3) := by decide +kernel
theorem d_Mo_feed_124 : decode b_Mo_feed 124 = .ok (.ireturn, 1) := by decide +kernel
def q_Mo_feed : List (Nat × j_S) := [(0, j_ld 2 0 1),
  (1, j_st (f_psh (.int 0)) 2),
  (2, j_pf [11] 0 0 5),
  (5, j_ld 2 0 6),
  (6, j_gf [11] 1 9),
  (9, j_st (f_psh (.int 20)) 11),
  (11, j_st (f_ii (fun a b => a + b)) 12),
  (12, j_st (f_psh (.int 60)) 14),
  (14, j_br (f_ic (fun x y => decide (x ≤ y))) 23 17),
  (17, j_ld 2 0 18),
  (18, j_st (f_psh (.int 1)) 19),
  (19, j_cv [(11, 94)] 1),
  (22, j_rt 0),
  (23, j_st (f_psh (.int 0)) 24),
  (24, j_so 0 6 26),
  (26, j_ld 0 6 28),
  (28, j_st (f_psh (.int 20)) 30),
  (30, j_br (f_ic (fun x y => decide (y ≤ x))) 120 33),
  (33, j_ld 0 6 35),
  (35, j_st (f_psh (.int 4)) 36),
  (36, j_br (f_ic (fun x y => decide (y ≤ x))) 43 39),
  (39, j_ld 0 1 40),
  (40, j_st f_id 79),
  (43, j_ld 0 6 45),
  (45, j_st (f_psh (.int 8)) 47),
  (47, j_br (f_ic (fun x y => decide (y ≤ x))) 54 50),
  (50, j_ld 0 2 51),
  (51, j_st f_id 79),
  (54, j_ld 0 6 56),
  (56, j_st (f_psh (.int 12)) 58),
  (58, j_br (f_ic (fun x y => decide (y ≤ x))) 65 61),
  (61, j_ld 0 3 62),
  (62, j_st f_id 79),
  (65, j_ld 0 6 67),
  (67, j_st (f_psh (.int 16)) 69),
  (69, j_br (f_ic (fun x y => decide (y ≤ x))) 77 72),
  (72, j_ld 0 4 74),
  (74, j_st f_id 79),
  (77, j_ld 0 5 79),
  (79, j_so 0 7 81),
  (81, j_ld 2 0 82),
  (82, j_gf [11] 5 85),
  (85, j_ld 2 0 86),
  (86, j_gf [11] 1 89),
  (89, j_ld 0 7 91),
  (91, j_st (f_psh (.int 24)) 93),
  (93, j_st (f_psh (.int 8)) 95),
  (95, j_ld 0 6 97),
  (97, j_st (f_psh (.int 4)) 98),
  (98, j_st (f_iin (fun a b => a - a / b * b)) 99),
  (99, j_st (f_ii (fun a b => a * b)) 100),
  (100, j_st (f_ii (fun a b => a - b)) 101),
  (101, j_st (f_ii (fun a b => a >>> (b &&& 31))) 102),
  (102, j_st (f_i (fun a => a.toInt8.toInt32)) 103),
  (103, j_abz 104),
  (104, j_ld 2 0 105),
  (105, j_st (f_dup) 106),
  (106, j_gf [11] 1 109),
  (109, j_st (f_psh (.int 1)) 110),
  (110, j_st (f_ii (fun a b => a + b)) 111),
  (111, j_pf [11] 1 0 114),
  (114, j_ic 6 1 117),
  (117, j_st f_id 26),
  (120, j_ld 2 0 121),
  (121, j_gf [11] 1 124),
  (124, j_rt 0)]
def i_Mo_feed : j_I := (R_Mo, b_Mo_feed, 8, false, (some .int), [])
def e_Mo_feed : j_E := ((y_Mo_feed, c_Mo_feed), i_Mo_feed, j_tab q_Mo_feed, [])
theorem o_Mo_feed (G : j_G) : j_mok G tm e_Mo_feed := ⟨by decide +kernel, Or.inl ⟨rfl, rfl⟩, rfl, (fun h => by cases h), j_tab_ok (i := i_Mo_feed) (l := q_Mo_feed) (j_all_mem ⟨r_aload_n d_Mo_feed_0 rfl,
  r_iconst d_Mo_feed_1 (by decide),
  r_putfield (fin := false) (j_all_mem ⟨⟨_, _, _, t_Mo, _, rfl, w_Mo, t_Mo_ok, n_Mo, by decide, rfl, t_Mo_ok 0 (by decide), Or.inl ⟨rfl, rfl⟩, ⟨_, k_1251, Or.inl rfl⟩, (fun h => by cases h)⟩, trivial⟩) (fun h => by cases h) d_Mo_feed_2,
  r_aload_n d_Mo_feed_5 rfl,
  r_getfield (j_all_mem ⟨⟨_, _, _, rfl, w_Mo, by decide, ⟨_, k_1253, Or.inl rfl⟩⟩, trivial⟩) d_Mo_feed_6,
  r_bipush d_Mo_feed_9 (by decide),
  r_iadd d_Mo_feed_11,
  r_bipush d_Mo_feed_12 (by decide),
  r_ic_le d_Mo_feed_14 (by decide),
  r_aload_n d_Mo_feed_17 rfl,
  r_iconst d_Mo_feed_18 (by decide),
  r_invV (j_all_mem ⟨⟨⟨_, _, _, rfl, k_1297, k_1299, kp_Mo_fail⟩, cw_Mo_fail, by decide, by decide +kernel⟩, trivial⟩) d_Mo_feed_19,
  r_ireturn d_Mo_feed_22 rfl,
  r_iconst d_Mo_feed_23 (by decide),
  r_istore d_Mo_feed_24 (by decide),
  r_iload d_Mo_feed_26,
  r_bipush d_Mo_feed_28 (by decide),
  r_ic_ge d_Mo_feed_30 (by decide),
  r_iload d_Mo_feed_33,
  r_iconst d_Mo_feed_35 (by decide),
  r_ic_ge d_Mo_feed_36 (by decide),
  r_iload_n d_Mo_feed_39 rfl,
  r_goto d_Mo_feed_40 (by decide),
  r_iload d_Mo_feed_43,
  r_bipush d_Mo_feed_45 (by decide),
  r_ic_ge d_Mo_feed_47 (by decide),
  r_iload_n d_Mo_feed_50 rfl,
  r_goto d_Mo_feed_51 (by decide),
  r_iload d_Mo_feed_54,
  r_bipush d_Mo_feed_56 (by decide),
  r_ic_ge d_Mo_feed_58 (by decide),
  r_iload_n d_Mo_feed_61 rfl,
  r_goto d_Mo_feed_62 (by decide),
  r_iload d_Mo_feed_65,
  r_bipush d_Mo_feed_67 (by decide),
  r_ic_ge d_Mo_feed_69 (by decide),
  r_iload d_Mo_feed_72,
  r_goto d_Mo_feed_74 (by decide),
  r_iload d_Mo_feed_77,
  r_istore d_Mo_feed_79 (by decide),
  r_aload_n d_Mo_feed_81 rfl,
  r_getfield (j_all_mem ⟨⟨_, _, _, rfl, w_Mo, by decide, ⟨_, k_1252, Or.inl rfl⟩⟩, trivial⟩) d_Mo_feed_82,
  r_aload_n d_Mo_feed_85 rfl,
  r_getfield (j_all_mem ⟨⟨_, _, _, rfl, w_Mo, by decide, ⟨_, k_1253, Or.inl rfl⟩⟩, trivial⟩) d_Mo_feed_86,
  r_iload d_Mo_feed_89,
  r_bipush d_Mo_feed_91 (by decide),
  r_bipush d_Mo_feed_93 (by decide),
  r_iload d_Mo_feed_95,
  r_iconst d_Mo_feed_97 (by decide),
  r_irem d_Mo_feed_98,
  r_imul d_Mo_feed_99,
  r_isub d_Mo_feed_100,
  r_ishr d_Mo_feed_101,
  r_i2b d_Mo_feed_102,
  r_bastore2 d_Mo_feed_103,
  r_aload_n d_Mo_feed_104 rfl,
  r_dup d_Mo_feed_105,
  r_getfield (j_all_mem ⟨⟨_, _, _, rfl, w_Mo, by decide, ⟨_, k_1253, Or.inl rfl⟩⟩, trivial⟩) d_Mo_feed_106,
  r_iconst d_Mo_feed_109 (by decide),
  r_iadd d_Mo_feed_110,
  r_putfield (fin := false) (j_all_mem ⟨⟨_, _, _, t_Mo, _, rfl, w_Mo, t_Mo_ok, n_Mo, by decide, rfl, t_Mo_ok 1 (by decide), Or.inl ⟨rfl, rfl⟩, ⟨_, k_1253, Or.inl rfl⟩, (fun h => by cases h)⟩, trivial⟩) (fun h => by cases h) d_Mo_feed_111,
  j_ok_ic d_Mo_feed_114 rfl (by decide) (by decide),
  r_goto d_Mo_feed_117 (by decide),
  r_aload_n d_Mo_feed_120 rfl,
  r_getfield (j_all_mem ⟨⟨_, _, _, rfl, w_Mo, by decide, ⟨_, k_1253, Or.inl rfl⟩⟩, trivial⟩) d_Mo_feed_121,
  r_ireturn d_Mo_feed_124 rfl, trivial⟩), (fun q h => by cases h), (fun _ => rfl)⟩
theorem d_Mo_find_0 : decode b_Mo_find 0 = .ok (.aload_n 0, 1) := by decide +kernel
theorem d_Mo_find_1 : decode b_Mo_find 1 = .ok (.iconst 0, 1) := by decide +kernel
theorem d_Mo_find_2 : decode b_Mo_find 2 = .ok (.putfield 37, 3) := by decide +kernel
theorem d_Mo_find_5 : decode b_Mo_find 5 = .ok (.aload_n 0, 1) := by decide +kernel
theorem d_Mo_find_6 : decode b_Mo_find 6 = .ok (.invokevirtual 57, 3) := by decide +kernel
theorem d_Mo_find_9 : decode b_Mo_find 9 = .ok (.ifCond .eq 14, 3) := by decide +kernel
theorem d_Mo_find_12 : decode b_Mo_find 12 = .ok (.iload_n 1, 1) := by decide +kernel
theorem d_Mo_find_13 : decode b_Mo_find 13 = .ok (.iconst (-1), 1) := by decide +kernel
theorem d_Mo_find_14 : decode b_Mo_find 14 = .ok (.if_icmp .lt 9, 3) := by decide +kernel
theorem d_Mo_find_17 : decode b_Mo_find 17 = .ok (.iload_n 1, 1) := by decide +kernel
theorem d_Mo_find_18 : decode b_Mo_find 18 = .ok (.bipush 7, 2) := by decide +kernel
theorem d_Mo_find_20 : decode b_Mo_find 20 = .ok (.if_icmp .le 9, 3) := by decide +kernel
theorem d_Mo_find_23 : decode b_Mo_find 23 = .ok (.aload_n 0, 1) := by decide +kernel
theorem d_Mo_find_24 : decode b_Mo_find 24 = .ok (.iconst 1, 1) := by decide +kernel
theorem d_Mo_find_25 : decode b_Mo_find 25 = .ok (.invokevirtual 43, 3) := by decide +kernel
theorem d_Mo_find_28 : decode b_Mo_find 28 = .ok (.ireturn, 1) := by decide +kernel
theorem d_Mo_find_29 : decode b_Mo_find 29 = .ok (.aload_n 0, 1) := by decide +kernel
theorem d_Mo_find_30 : decode b_Mo_find 30 = .ok (.getfield 40, 3) := by decide +kernel
theorem d_Mo_find_33 : decode b_Mo_find 33 = .ok (.istore_n 2, 1) := by decide +kernel
theorem d_Mo_find_34 : decode b_Mo_find 34 = .ok (.aload_n 0, 1) := by decide +kernel
theorem d_Mo_find_35 : decode b_Mo_find 35 = .ok (.iconst 0, 1) := by decide +kernel
theorem d_Mo_find_36 : decode b_Mo_find 36 = .ok (.putfield 40, 3) := by decide +kernel
theorem d_Mo_find_39 : decode b_Mo_find 39 = .ok (.iload_n 1, 1) := by decide +kernel
theorem d_Mo_find_40 : decode b_Mo_find 40 = .ok (.ifCond .lt 18, 3) := by decide +kernel
theorem d_Mo_find_43 : decode b_Mo_find 43 = .ok (.aload_n 0, 1) := by decide +kernel
theorem d_Mo_find_44 : decode b_Mo_find 44 = .ok (.getfield 26, 3) := by decide +kernel
theorem d_Mo_find_47 : decode b_Mo_find 47 = .ok (.iload_n 1, 1) := by decide +kernel
theorem d_Mo_find_48 : decode b_Mo_find 48 = .ok (.baload, 1) := by decide +kernel
theorem d_Mo_find_49 : decode b_Mo_find 49 = .ok (.ifCond .ne 9, 3) := by decide +kernel
theorem d_Mo_find_52 : decode b_Mo_find 52 = .ok (.aload_n 0, 1) := by decide +kernel
theorem d_Mo_find_53 : decode b_Mo_find 53 = .ok (.iconst 2, 1) := by decide +kernel
theorem d_Mo_find_54 : decode b_Mo_find 54 = .ok (.invokevirtual 43, 3) := by decide +kernel
theorem d_Mo_find_57 : decode b_Mo_find 57 = .ok (.ireturn, 1) := by decide +kernel
theorem d_Mo_find_58 : decode b_Mo_find 58 = .ok (.iload_n 1, 1) := by decide +kernel
theorem d_Mo_find_59 : decode b_Mo_find 59 = .ok (.ifCond .ge 10, 3) := by decide +kernel
theorem d_Mo_find_62 : decode b_Mo_find 62 = .ok (.aload_n 0, 1) := by decide +kernel
theorem d_Mo_find_63 : decode b_Mo_find 63 = .ok (.getfield 47, 3) := by decide +kernel
theorem d_Mo_find_66 : decode b_Mo_find 66 = .ok (.goto 9, 3) := by decide +kernel
theorem d_Mo_find_69 : decode b_Mo_find 69 = .ok (.aload_n 0, 1) := by decide +kernel
theorem d_Mo_find_70 : decode b_Mo_find 70 = .ok (.getfield 30, 3) := by decide +kernel
theorem d_Mo_find_73 : decode b_Mo_find 73 = .ok (.iload_n 1, 1) := by decide +kernel
theorem d_Mo_find_74 : decode b_Mo_find 74 = .ok (.iaload, 1) := by decide +kernel
theorem d_Mo_find_75 : decode b_Mo_find 75 = .ok (.istore_n 3, 1) := by decide +kernel
theorem d_Mo_find_76 : decode b_Mo_find 76 = .ok (.aload_n 0, 1) := by decide +kernel
theorem d_Mo_find_77 : decode b_Mo_find 77 = .ok (.iconst (-1), 1) := by decide +kernel
theorem d_Mo_find_78 : decode b_Mo_find 78 = .ok (.putfield 33, 3) := by decide +kernel
theorem d_Mo_find_81 : decode b_Mo_find 81 = .ok (.iload_n 3, 1) := by decide +kernel
theorem d_Mo_find_82 : decode b_Mo_find 82 = .ok (.iconst 1, 1) := by decide +kernel
theorem d_Mo_find_83 : decode b_Mo_find 83 = .ok (.isub, 1) := by decide +kernel
theorem d_Mo_find_84 : decode b_Mo_find 84 = .ok (.istore 4, 2) := by decide +kernel
theorem d_Mo_find_86 : decode b_Mo_find 86 = .ok (.iload 4, 2) := by decide +kernel
theorem d_Mo_find_88 : decode b_Mo_find 88 = .ok (.ifCond .lt 19, 3) := by decide +kernel
theorem d_Mo_find_91 : decode b_Mo_find 91 = .ok (.aload_n 0, 1) := by decide +kernel
theorem d_Mo_find_92 : decode b_Mo_find 92 = .ok (.iload 4, 2) := by decide +kernel
theorem d_Mo_find_94 : decode b_Mo_find 94 = .ok (.iload_n 2, 1) := by decide +kernel
theorem d_Mo_find_95 : decode b_Mo_find 95 = .ok (.invokevirtual 50, 3) := by decide +kernel
theorem d_Mo_find_98 : decode b_Mo_find 98 = .ok (.ifCond .eq 9, 3) := by decide +kernel
theorem d_Mo_find_101 : decode b_Mo_find 101 = .ok (.iinc 4 (-1), 3) := by decide +kernel
theorem d_Mo_find_104 : decode b_Mo_find 104 = .ok (.goto (-18), 3) := by decide +kernel
theorem d_Mo_find_107 : decode b_Mo_find 107 = .ok (.iload 4, 2) := by decide +kernel
theorem d_Mo_find_109 : decode b_Mo_find 109 = .ok (.ifCond .lt 13, 3) := by decide +kernel
theorem d_Mo_find_112 : decode b_Mo_find 112 = .ok (.aload_n 0, 1) := by decide +kernel
theorem d_Mo_find_113 : decode b_Mo_find 113 = .ok (.getfield 23, 3) := by decide +kernel
theorem d_Mo_find_116 : decode b_Mo_find 116 = .ok (.iload 4, 2) := by decide +kernel
theorem d_Mo_find_118 : decode b_Mo_find 118 = .ok (.iaload, 1) := by decide +kernel
theorem d_Mo_find_119 : decode b_Mo_find 119 = .ok (.ifCond .ge 9, 3) := by decide +kernel
theorem d_Mo_find_122 : decode b_Mo_find 122 = .ok (.aload_n 0, 1) := by decide +kernel
theorem d_Mo_find_123 : decode b_Mo_find 123 = .ok (.iconst 3, 1) := by decide +kernel
theorem d_Mo_find_124 : decode b_Mo_find 124 = .ok (.invokevirtual 43, 3) := by decide +kernel
theorem d_Mo_find_127 : decode b_Mo_find 127 = .ok (.ireturn, 1) := by decide +kernel
theorem d_Mo_find_128 : decode b_Mo_find 128 = .ok (.aload_n 0, 1) := by decide +kernel
theorem d_Mo_find_129 : decode b_Mo_find 129 = .ok (.iload 4, 2) := by decide +kernel
theorem d_Mo_find_131 : decode b_Mo_find 131 = .ok (.putfield 33, 3) := by decide +kernel
theorem d_Mo_find_134 : decode b_Mo_find 134 = .ok (.aload_n 0, 1) := by decide +kernel
theorem d_Mo_find_135 : decode b_Mo_find 135 = .ok (.getfield 20, 3) := by decide +kernel
theorem d_Mo_find_138 : decode b_Mo_find 138 = .ok (.iload 4, 2) := by decide +kernel
theorem d_Mo_find_140 : decode b_Mo_find 140 = .ok (.iaload, 1) := by decide +kernel
theorem d_Mo_find_141 : decode b_Mo_find 141 = .ok (.ireturn, 1) := by decide +kernel
def q_Mo_find : List (Nat × j_S) := [(0, j_ld 2 0 1),
  (1, j_st (f_psh (.int 0)) 2),
  (2, j_pf [11] 0 0 5),
  (5, j_ld 2 0 6),
  (6, j_cv [(11, 99)] 0),
  (9, j_br (f_if (fun x => decide (x = 0))) 23 12),
  (12, j_ld 0 1 13),
  (13, j_st (f_psh (.int (-1))) 14),
  (14, j_br (f_ic (fun x y => decide (x < y))) 23 17),
  (17, j_ld 0 1 18),
  (18, j_st (f_psh (.int 7)) 20),
  (20, j_br (f_ic (fun x y => decide (x ≤ y))) 29 23),
  (23, j_ld 2 0 24),
  (24, j_st (f_psh (.int 1)) 25),
  (25, j_cv [(11, 94)] 1),
  (28, j_rt 0),
  (29, j_ld 2 0 30),
  (30, j_gf [11] 1 33),
  (33, j_so 0 2 34),
  (34, j_ld 2 0 35),
  (35, j_st (f_psh (.int 0)) 36),
  (36, j_pf [11] 1 0 39),
  (39, j_ld 0 1 40),
  (40, j_br (f_if (fun x => decide (x < 0))) 58 43),
  (43, j_ld 2 0 44),
  (44, j_gf [11] 10 47),
  (47, j_ld 0 1 48),
  (48, j_alb 49),
  (49, j_br (f_if (fun x => decide (¬ x = 0))) 58 52),
  (52, j_ld 2 0 53),
  (53, j_st (f_psh (.int 2)) 54),
  (54, j_cv [(11, 94)] 1),
  (57, j_rt 0),
  (58, j_ld 0 1 59),
  (59, j_br (f_if (fun x => decide (0 ≤ x))) 69 62),
  (62, j_ld 2 0 63),
  (63, j_gf [11] 2 66),
  (66, j_st f_id 75),
  (69, j_ld 2 0 70),
  (70, j_gf [11] 11 73),
  (73, j_ld 0 1 74),
  (74, j_al 0 75),
  (75, j_so 0 3 76),
  (76, j_ld 2 0 77),
  (77, j_st (f_psh (.int (-1))) 78),
  (78, j_pf [11] 4 0 81),
  (81, j_ld 0 3 82),
  (82, j_st (f_psh (.int 1)) 83),
  (83, j_st (f_ii (fun a b => a - b)) 84),
  (84, j_so 0 4 86),
  (86, j_ld 0 4 88),
  (88, j_br (f_if (fun x => decide (x < 0))) 107 91),
  (91, j_ld 2 0 92),
  (92, j_ld 0 4 94),
  (94, j_ld 0 2 95),
  (95, j_cv [(11, 90)] 2),
  (98, j_br (f_if (fun x => decide (x = 0))) 107 101),
  (101, j_ic 4 (-1) 104),
  (104, j_st f_id 86),
  (107, j_ld 0 4 109),
  (109, j_br (f_if (fun x => decide (x < 0))) 122 112),
  (112, j_ld 2 0 113),
  (113, j_gf [11] 9 116),
  (116, j_ld 0 4 118),
  (118, j_al 0 119),
  (119, j_br (f_if (fun x => decide (0 ≤ x))) 128 122),
  (122, j_ld 2 0 123),
  (123, j_st (f_psh (.int 3)) 124),
  (124, j_cv [(11, 94)] 1),
  (127, j_rt 0),
  (128, j_ld 2 0 129),
  (129, j_ld 0 4 131),
  (131, j_pf [11] 4 0 134),
  (134, j_ld 2 0 135),
  (135, j_gf [11] 8 138),
  (138, j_ld 0 4 140),
  (140, j_al 0 141),
  (141, j_rt 0)]
def i_Mo_find : j_I := (R_Mo, b_Mo_find, 5, false, (some .int), [])
def e_Mo_find : j_E := ((y_Mo_find, c_Mo_find), i_Mo_find, j_tab q_Mo_find, [])
theorem o_Mo_find (G : j_G) : j_mok G tm e_Mo_find := ⟨by decide +kernel, Or.inl ⟨rfl, rfl⟩, rfl, (fun h => by cases h), j_tab_ok (i := i_Mo_find) (l := q_Mo_find) (j_all_mem ⟨r_aload_n d_Mo_find_0 rfl,
  r_iconst d_Mo_find_1 (by decide),
  r_putfield (fin := false) (j_all_mem ⟨⟨_, _, _, t_Mo, _, rfl, w_Mo, t_Mo_ok, n_Mo, by decide, rfl, t_Mo_ok 0 (by decide), Or.inl ⟨rfl, rfl⟩, ⟨_, k_1251, Or.inl rfl⟩, (fun h => by cases h)⟩, trivial⟩) (fun h => by cases h) d_Mo_find_2,
  r_aload_n d_Mo_find_5 rfl,
  r_invV (j_all_mem ⟨⟨⟨_, _, _, rfl, k_1309, k_1311, kp_Mo_keyed⟩, cw_Mo_keyed, by decide, by decide +kernel⟩, trivial⟩) d_Mo_find_6,
  r_if_eq d_Mo_find_9 (by decide),
  r_iload_n d_Mo_find_12 rfl,
  r_iconst d_Mo_find_13 (by decide),
  r_ic_lt d_Mo_find_14 (by decide),
  r_iload_n d_Mo_find_17 rfl,
  r_bipush d_Mo_find_18 (by decide),
  r_ic_le d_Mo_find_20 (by decide),
  r_aload_n d_Mo_find_23 rfl,
  r_iconst d_Mo_find_24 (by decide),
  r_invV (j_all_mem ⟨⟨⟨_, _, _, rfl, k_1297, k_1299, kp_Mo_fail⟩, cw_Mo_fail, by decide, by decide +kernel⟩, trivial⟩) d_Mo_find_25,
  r_ireturn d_Mo_find_28 rfl,
  r_aload_n d_Mo_find_29 rfl,
  r_getfield (j_all_mem ⟨⟨_, _, _, rfl, w_Mo, by decide, ⟨_, k_1253, Or.inl rfl⟩⟩, trivial⟩) d_Mo_find_30,
  r_istore_n d_Mo_find_33 rfl (by decide),
  r_aload_n d_Mo_find_34 rfl,
  r_iconst d_Mo_find_35 (by decide),
  r_putfield (fin := false) (j_all_mem ⟨⟨_, _, _, t_Mo, _, rfl, w_Mo, t_Mo_ok, n_Mo, by decide, rfl, t_Mo_ok 1 (by decide), Or.inl ⟨rfl, rfl⟩, ⟨_, k_1253, Or.inl rfl⟩, (fun h => by cases h)⟩, trivial⟩) (fun h => by cases h) d_Mo_find_36,
  r_iload_n d_Mo_find_39 rfl,
  r_if_lt d_Mo_find_40 (by decide),
  r_aload_n d_Mo_find_43 rfl,
  r_getfield (j_all_mem ⟨⟨_, _, _, rfl, w_Mo, by decide, ⟨_, k_1260, Or.inl rfl⟩⟩, trivial⟩) d_Mo_find_44,
  r_iload_n d_Mo_find_47 rfl,
  r_baload2 d_Mo_find_48,
  r_if_ne d_Mo_find_49 (by decide),
  r_aload_n d_Mo_find_52 rfl,
  r_iconst d_Mo_find_53 (by decide),
  r_invV (j_all_mem ⟨⟨⟨_, _, _, rfl, k_1297, k_1299, kp_Mo_fail⟩, cw_Mo_fail, by decide, by decide +kernel⟩, trivial⟩) d_Mo_find_54,
  r_ireturn d_Mo_find_57 rfl,
  r_iload_n d_Mo_find_58 rfl,
  r_if_ge d_Mo_find_59 (by decide),
  r_aload_n d_Mo_find_62 rfl,
  r_getfield (j_all_mem ⟨⟨_, _, _, rfl, w_Mo, by decide, ⟨_, k_1258, Or.inl rfl⟩⟩, trivial⟩) d_Mo_find_63,
  r_goto d_Mo_find_66 (by decide),
  r_aload_n d_Mo_find_69 rfl,
  r_getfield (j_all_mem ⟨⟨_, _, _, rfl, w_Mo, by decide, ⟨_, k_1261, Or.inl rfl⟩⟩, trivial⟩) d_Mo_find_70,
  r_iload_n d_Mo_find_73 rfl,
  r_iaload d_Mo_find_74,
  r_istore_n d_Mo_find_75 rfl (by decide),
  r_aload_n d_Mo_find_76 rfl,
  r_iconst d_Mo_find_77 (by decide),
  r_putfield (fin := false) (j_all_mem ⟨⟨_, _, _, t_Mo, _, rfl, w_Mo, t_Mo_ok, n_Mo, by decide, rfl, t_Mo_ok 4 (by decide), Or.inl ⟨rfl, rfl⟩, ⟨_, k_1262, Or.inl rfl⟩, (fun h => by cases h)⟩, trivial⟩) (fun h => by cases h) d_Mo_find_78,
  r_iload_n d_Mo_find_81 rfl,
  r_iconst d_Mo_find_82 (by decide),
  r_isub d_Mo_find_83,
  r_istore d_Mo_find_84 (by decide),
  r_iload d_Mo_find_86,
  r_if_lt d_Mo_find_88 (by decide),
  r_aload_n d_Mo_find_91 rfl,
  r_iload d_Mo_find_92,
  r_iload_n d_Mo_find_94 rfl,
  r_invV (j_all_mem ⟨⟨⟨_, _, _, rfl, k_1317, k_1319, kp_Mo_compareTape⟩, cw_Mo_compareTape, by decide, by decide +kernel⟩, trivial⟩) d_Mo_find_95,
  r_if_eq d_Mo_find_98 (by decide),
  j_ok_ic d_Mo_find_101 rfl (by decide) (by decide),
  r_goto d_Mo_find_104 (by decide),
  r_iload d_Mo_find_107,
  r_if_lt d_Mo_find_109 (by decide),
  r_aload_n d_Mo_find_112 rfl,
  r_getfield (j_all_mem ⟨⟨_, _, _, rfl, w_Mo, by decide, ⟨_, k_1257, Or.inl rfl⟩⟩, trivial⟩) d_Mo_find_113,
  r_iload d_Mo_find_116,
  r_iaload d_Mo_find_118,
  r_if_ge d_Mo_find_119 (by decide),
  r_aload_n d_Mo_find_122 rfl,
  r_iconst d_Mo_find_123 (by decide),
  r_invV (j_all_mem ⟨⟨⟨_, _, _, rfl, k_1297, k_1299, kp_Mo_fail⟩, cw_Mo_fail, by decide, by decide +kernel⟩, trivial⟩) d_Mo_find_124,
  r_ireturn d_Mo_find_127 rfl,
  r_aload_n d_Mo_find_128 rfl,
  r_iload d_Mo_find_129,
  r_putfield (fin := false) (j_all_mem ⟨⟨_, _, _, t_Mo, _, rfl, w_Mo, t_Mo_ok, n_Mo, by decide, rfl, t_Mo_ok 4 (by decide), Or.inl ⟨rfl, rfl⟩, ⟨_, k_1262, Or.inl rfl⟩, (fun h => by cases h)⟩, trivial⟩) (fun h => by cases h) d_Mo_find_131,
  r_aload_n d_Mo_find_134 rfl,
  r_getfield (j_all_mem ⟨⟨_, _, _, rfl, w_Mo, by decide, ⟨_, k_1256, Or.inl rfl⟩⟩, trivial⟩) d_Mo_find_135,
  r_iload d_Mo_find_138,
  r_iaload d_Mo_find_140,
  r_ireturn d_Mo_find_141 rfl, trivial⟩), (fun q h => by cases h), (fun _ => rfl)⟩
theorem d_Mo_flush_0 : decode b_Mo_flush 0 = .ok (.aload_n 0, 1) := by decide +kernel
theorem d_Mo_flush_1 : decode b_Mo_flush 1 = .ok (.invokevirtual 73, 3) := by decide +kernel
theorem d_Mo_flush_4 : decode b_Mo_flush 4 = .ok (.ireturn, 1) := by decide +kernel
def q_Mo_flush : List (Nat × j_S) := [(0, j_ld 2 0 1),
  (1, j_cv [(11, 103)] 0),
  (4, j_rt 0)]
def i_Mo_flush : j_I := (R_Mo, b_Mo_flush, 1, false, (some .int), [])
def e_Mo_flush : j_E := ((y_Mo_flush, c_Mo_flush), i_Mo_flush, j_tab q_Mo_flush, [])
theorem o_Mo_flush (G : j_G) : j_mok G tm e_Mo_flush := ⟨by decide +kernel, Or.inl ⟨rfl, rfl⟩, rfl, (fun h => by cases h), j_tab_ok (i := i_Mo_flush) (l := q_Mo_flush) (j_all_mem ⟨r_aload_n d_Mo_flush_0 rfl,
  r_invV (j_all_mem ⟨⟨⟨_, _, _, rfl, k_1362, k_1364, kp_Mo_present⟩, cw_Mo_present, by decide, by decide +kernel⟩, trivial⟩) d_Mo_flush_1,
  r_ireturn d_Mo_flush_4 rfl, trivial⟩), (fun q h => by cases h), (fun _ => rfl)⟩
theorem d_Mo_init_0 : decode b_Mo_init 0 = .ok (.aload_n 0, 1) := by decide +kernel
theorem d_Mo_init_1 : decode b_Mo_init 1 = .ok (.invokespecial 1, 3) := by decide +kernel
theorem d_Mo_init_4 : decode b_Mo_init 4 = .ok (.aload_n 0, 1) := by decide +kernel
theorem d_Mo_init_5 : decode b_Mo_init 5 = .ok (.bipush 60, 2) := by decide +kernel
theorem d_Mo_init_7 : decode b_Mo_init 7 = .ok (.newarray .byte, 2) := by decide +kernel
theorem d_Mo_init_9 : decode b_Mo_init 9 = .ok (.putfield 7, 3) := by decide +kernel
theorem d_Mo_init_12 : decode b_Mo_init 12 = .ok (.aload_n 0, 1) := by decide +kernel
theorem d_Mo_init_13 : decode b_Mo_init 13 = .ok (.sipush 20000, 3) := by decide +kernel
theorem d_Mo_init_16 : decode b_Mo_init 16 = .ok (.newarray .byte, 2) := by decide +kernel
theorem d_Mo_init_18 : decode b_Mo_init 18 = .ok (.putfield 13, 3) := by decide +kernel
theorem d_Mo_init_21 : decode b_Mo_init 21 = .ok (.aload_n 0, 1) := by decide +kernel
theorem d_Mo_init_22 : decode b_Mo_init 22 = .ok (.sipush 500, 3) := by decide +kernel
theorem d_Mo_init_25 : decode b_Mo_init 25 = .ok (.newarray .int, 2) := by decide +kernel
theorem d_Mo_init_27 : decode b_Mo_init 27 = .ok (.putfield 16, 3) := by decide +kernel
theorem d_Mo_init_30 : decode b_Mo_init 30 = .ok (.aload_n 0, 1) := by decide +kernel
theorem d_Mo_init_31 : decode b_Mo_init 31 = .ok (.sipush 500, 3) := by decide +kernel
theorem d_Mo_init_34 : decode b_Mo_init 34 = .ok (.newarray .int, 2) := by decide +kernel
theorem d_Mo_init_36 : decode b_Mo_init 36 = .ok (.putfield 20, 3) := by decide +kernel
theorem d_Mo_init_39 : decode b_Mo_init 39 = .ok (.aload_n 0, 1) := by decide +kernel
theorem d_Mo_init_40 : decode b_Mo_init 40 = .ok (.sipush 500, 3) := by decide +kernel
theorem d_Mo_init_43 : decode b_Mo_init 43 = .ok (.newarray .int, 2) := by decide +kernel
theorem d_Mo_init_45 : decode b_Mo_init 45 = .ok (.putfield 23, 3) := by decide +kernel
theorem d_Mo_init_48 : decode b_Mo_init 48 = .ok (.aload_n 0, 1) := by decide +kernel
theorem d_Mo_init_49 : decode b_Mo_init 49 = .ok (.bipush 8, 2) := by decide +kernel
theorem d_Mo_init_51 : decode b_Mo_init 51 = .ok (.newarray .boolean, 2) := by decide +kernel
theorem d_Mo_init_53 : decode b_Mo_init 53 = .ok (.putfield 26, 3) := by decide +kernel
theorem d_Mo_init_56 : decode b_Mo_init 56 = .ok (.aload_n 0, 1) := by decide +kernel
theorem d_Mo_init_57 : decode b_Mo_init 57 = .ok (.bipush 8, 2) := by decide +kernel
theorem d_Mo_init_59 : decode b_Mo_init 59 = .ok (.newarray .int, 2) := by decide +kernel
theorem d_Mo_init_61 : decode b_Mo_init 61 = .ok (.putfield 30, 3) := by decide +kernel
theorem d_Mo_init_64 : decode b_Mo_init 64 = .ok (.aload_n 0, 1) := by decide +kernel
theorem d_Mo_init_65 : decode b_Mo_init 65 = .ok (.iconst (-1), 1) := by decide +kernel
theorem d_Mo_init_66 : decode b_Mo_init 66 = .ok (.putfield 33, 3) := by decide +kernel
theorem d_Mo_init_69 : decode b_Mo_init 69 = .ok (.return_, 1) := by decide +kernel
def q_Mo_init : List (Nat × j_S) := [(0, j_ld 2 0 1),
  (1, j_oi 4),
  (4, j_ld 2 0 5),
  (5, j_st (f_psh (.int 60)) 7),
  (7, j_na 2 9),
  (9, j_pf [11] 5 2 12),
  (12, j_ld 2 0 13),
  (13, j_st (f_psh (.int 20000)) 16),
  (16, j_na 2 18),
  (18, j_pf [11] 6 2 21),
  (21, j_ld 2 0 22),
  (22, j_st (f_psh (.int 500)) 25),
  (25, j_na 0 27),
  (27, j_pf [11] 7 2 30),
  (30, j_ld 2 0 31),
  (31, j_st (f_psh (.int 500)) 34),
  (34, j_na 0 36),
  (36, j_pf [11] 8 2 39),
  (39, j_ld 2 0 40),
  (40, j_st (f_psh (.int 500)) 43),
  (43, j_na 0 45),
  (45, j_pf [11] 9 2 48),
  (48, j_ld 2 0 49),
  (49, j_st (f_psh (.int 8)) 51),
  (51, j_na 8 53),
  (53, j_pf [11] 10 2 56),
  (56, j_ld 2 0 57),
  (57, j_st (f_psh (.int 8)) 59),
  (59, j_na 0 61),
  (61, j_pf [11] 11 2 64),
  (64, j_ld 2 0 65),
  (65, j_st (f_psh (.int (-1))) 66),
  (66, j_pf [11] 4 0 69),
  (69, j_rv)]
def i_Mo_init : j_I := (R_Mo, b_Mo_init, 1, true, none, [])
def e_Mo_init : j_E := ((y_Mo_init, c_Mo_init), i_Mo_init, j_tab q_Mo_init, [])
theorem o_Mo_init (G : j_G) : j_mok G tm e_Mo_init := ⟨by decide +kernel, Or.inl ⟨rfl, rfl⟩, rfl, (fun _ => rfl), j_tab_ok (i := i_Mo_init) (l := q_Mo_init) (j_all_mem ⟨r_aload_n d_Mo_init_0 rfl,
  r_objInit k_1250 k_oi k_oc d_Mo_init_1,
  r_aload_n d_Mo_init_4 rfl,
  r_bipush d_Mo_init_5 (by decide),
  r_newarray rfl rfl k_56 (by decide) (fun _ => rfl) (fun U cA h1 h2 => Option.some.inj (h2.symm.trans h1)) d_Mo_init_7,
  r_putfield (fin := true) (j_all_mem ⟨⟨_, _, _, t_Mo, _, rfl, w_Mo, t_Mo_ok, n_Mo, by decide, rfl, t_Mo_ok 5 (by decide), Or.inr (Or.inr (Or.inl ⟨rfl, by first | exact Or.inl ⟨_, rfl⟩ | exact Or.inr ⟨_, rfl⟩⟩)), ⟨_, k_1252, Or.inl rfl⟩, (fun _ => rfl)⟩, trivial⟩) (fun _ => rfl) d_Mo_init_9,
  r_aload_n d_Mo_init_12 rfl,
  r_sipush d_Mo_init_13 (by decide),
  r_newarray rfl rfl k_56 (by decide) (fun _ => rfl) (fun U cA h1 h2 => Option.some.inj (h2.symm.trans h1)) d_Mo_init_16,
  r_putfield (fin := true) (j_all_mem ⟨⟨_, _, _, t_Mo, _, rfl, w_Mo, t_Mo_ok, n_Mo, by decide, rfl, t_Mo_ok 6 (by decide), Or.inr (Or.inr (Or.inl ⟨rfl, by first | exact Or.inl ⟨_, rfl⟩ | exact Or.inr ⟨_, rfl⟩⟩)), ⟨_, k_1254, Or.inl rfl⟩, (fun _ => rfl)⟩, trivial⟩) (fun _ => rfl) d_Mo_init_18,
  r_aload_n d_Mo_init_21 rfl,
  r_sipush d_Mo_init_22 (by decide),
  r_newarray rfl rfl k_73 (by decide) (fun _ => rfl) (fun U cA h1 h2 => Option.some.inj (h2.symm.trans h1)) d_Mo_init_25,
  r_putfield (fin := true) (j_all_mem ⟨⟨_, _, _, t_Mo, _, rfl, w_Mo, t_Mo_ok, n_Mo, by decide, rfl, t_Mo_ok 7 (by decide), Or.inr (Or.inr (Or.inl ⟨rfl, by first | exact Or.inl ⟨_, rfl⟩ | exact Or.inr ⟨_, rfl⟩⟩)), ⟨_, k_1255, Or.inl rfl⟩, (fun _ => rfl)⟩, trivial⟩) (fun _ => rfl) d_Mo_init_27,
  r_aload_n d_Mo_init_30 rfl,
  r_sipush d_Mo_init_31 (by decide),
  r_newarray rfl rfl k_73 (by decide) (fun _ => rfl) (fun U cA h1 h2 => Option.some.inj (h2.symm.trans h1)) d_Mo_init_34,
  r_putfield (fin := true) (j_all_mem ⟨⟨_, _, _, t_Mo, _, rfl, w_Mo, t_Mo_ok, n_Mo, by decide, rfl, t_Mo_ok 8 (by decide), Or.inr (Or.inr (Or.inl ⟨rfl, by first | exact Or.inl ⟨_, rfl⟩ | exact Or.inr ⟨_, rfl⟩⟩)), ⟨_, k_1256, Or.inl rfl⟩, (fun _ => rfl)⟩, trivial⟩) (fun _ => rfl) d_Mo_init_36,
  r_aload_n d_Mo_init_39 rfl,
  r_sipush d_Mo_init_40 (by decide),
  r_newarray rfl rfl k_73 (by decide) (fun _ => rfl) (fun U cA h1 h2 => Option.some.inj (h2.symm.trans h1)) d_Mo_init_43,
  r_putfield (fin := true) (j_all_mem ⟨⟨_, _, _, t_Mo, _, rfl, w_Mo, t_Mo_ok, n_Mo, by decide, rfl, t_Mo_ok 9 (by decide), Or.inr (Or.inr (Or.inl ⟨rfl, by first | exact Or.inl ⟨_, rfl⟩ | exact Or.inr ⟨_, rfl⟩⟩)), ⟨_, k_1257, Or.inl rfl⟩, (fun _ => rfl)⟩, trivial⟩) (fun _ => rfl) d_Mo_init_45,
  r_aload_n d_Mo_init_48 rfl,
  r_bipush d_Mo_init_49 (by decide),
  r_newarray rfl rfl k_1288 (by decide) (fun _ => rfl) (fun U cA h1 h2 => Option.some.inj (h2.symm.trans h1)) d_Mo_init_51,
  r_putfield (fin := true) (j_all_mem ⟨⟨_, _, _, t_Mo, _, rfl, w_Mo, t_Mo_ok, n_Mo, by decide, rfl, t_Mo_ok 10 (by decide), Or.inr (Or.inr (Or.inl ⟨rfl, by first | exact Or.inl ⟨_, rfl⟩ | exact Or.inr ⟨_, rfl⟩⟩)), ⟨_, k_1260, Or.inl rfl⟩, (fun _ => rfl)⟩, trivial⟩) (fun _ => rfl) d_Mo_init_53,
  r_aload_n d_Mo_init_56 rfl,
  r_bipush d_Mo_init_57 (by decide),
  r_newarray rfl rfl k_73 (by decide) (fun _ => rfl) (fun U cA h1 h2 => Option.some.inj (h2.symm.trans h1)) d_Mo_init_59,
  r_putfield (fin := true) (j_all_mem ⟨⟨_, _, _, t_Mo, _, rfl, w_Mo, t_Mo_ok, n_Mo, by decide, rfl, t_Mo_ok 11 (by decide), Or.inr (Or.inr (Or.inl ⟨rfl, by first | exact Or.inl ⟨_, rfl⟩ | exact Or.inr ⟨_, rfl⟩⟩)), ⟨_, k_1261, Or.inl rfl⟩, (fun _ => rfl)⟩, trivial⟩) (fun _ => rfl) d_Mo_init_61,
  r_aload_n d_Mo_init_64 rfl,
  r_iconst d_Mo_init_65 (by decide),
  r_putfield (fin := false) (j_all_mem ⟨⟨_, _, _, t_Mo, _, rfl, w_Mo, t_Mo_ok, n_Mo, by decide, rfl, t_Mo_ok 4 (by decide), Or.inl ⟨rfl, rfl⟩, ⟨_, k_1262, Or.inl rfl⟩, (fun h => by cases h)⟩, trivial⟩) (fun h => by cases h) d_Mo_init_66,
  r_return d_Mo_init_69 rfl, trivial⟩), (fun q h => by cases h), (fun _ => rfl)⟩
theorem d_Mo_keyed_0 : decode b_Mo_keyed 0 = .ok (.aload_n 0, 1) := by decide +kernel
theorem d_Mo_keyed_1 : decode b_Mo_keyed 1 = .ok (.getfield 40, 3) := by decide +kernel
theorem d_Mo_keyed_4 : decode b_Mo_keyed 4 = .ok (.iconst 1, 1) := by decide +kernel
theorem d_Mo_keyed_5 : decode b_Mo_keyed 5 = .ok (.if_icmp .lt 16, 3) := by decide +kernel
theorem d_Mo_keyed_8 : decode b_Mo_keyed 8 = .ok (.aload_n 0, 1) := by decide +kernel
theorem d_Mo_keyed_9 : decode b_Mo_keyed 9 = .ok (.getfield 40, 3) := by decide +kernel
theorem d_Mo_keyed_12 : decode b_Mo_keyed 12 = .ok (.bipush 40, 2) := by decide +kernel
theorem d_Mo_keyed_14 : decode b_Mo_keyed 14 = .ok (.if_icmp .gt 7, 3) := by decide +kernel
theorem d_Mo_keyed_17 : decode b_Mo_keyed 17 = .ok (.iconst 1, 1) := by decide +kernel
theorem d_Mo_keyed_18 : decode b_Mo_keyed 18 = .ok (.goto 4, 3) := by decide +kernel
theorem d_Mo_keyed_21 : decode b_Mo_keyed 21 = .ok (.iconst 0, 1) := by decide +kernel
theorem d_Mo_keyed_22 : decode b_Mo_keyed 22 = .ok (.ireturn, 1) := by decide +kernel
def q_Mo_keyed : List (Nat × j_S) := [(0, j_ld 2 0 1),
  (1, j_gf [11] 1 4),
  (4, j_st (f_psh (.int 1)) 5),
  (5, j_br (f_ic (fun x y => decide (x < y))) 21 8),
  (8, j_ld 2 0 9),
  (9, j_gf [11] 1 12),
  (12, j_st (f_psh (.int 40)) 14),
  (14, j_br (f_ic (fun x y => decide (y < x))) 21 17),
  (17, j_st (f_psh (.int 1)) 18),
  (18, j_st f_id 22),
  (21, j_st (f_psh (.int 0)) 22),
  (22, j_rt 3)]
def i_Mo_keyed : j_I := (R_Mo, b_Mo_keyed, 1, false, (some .boolean), [])
def e_Mo_keyed : j_E := ((y_Mo_keyed, c_Mo_keyed), i_Mo_keyed, j_tab q_Mo_keyed, [])
theorem o_Mo_keyed (G : j_G) : j_mok G tm e_Mo_keyed := ⟨by decide +kernel, Or.inl ⟨rfl, rfl⟩, rfl, (fun h => by cases h), j_tab_ok (i := i_Mo_keyed) (l := q_Mo_keyed) (j_all_mem ⟨r_aload_n d_Mo_keyed_0 rfl,
  r_getfield (j_all_mem ⟨⟨_, _, _, rfl, w_Mo, by decide, ⟨_, k_1253, Or.inl rfl⟩⟩, trivial⟩) d_Mo_keyed_1,
  r_iconst d_Mo_keyed_4 (by decide),
  r_ic_lt d_Mo_keyed_5 (by decide),
  r_aload_n d_Mo_keyed_8 rfl,
  r_getfield (j_all_mem ⟨⟨_, _, _, rfl, w_Mo, by decide, ⟨_, k_1253, Or.inl rfl⟩⟩, trivial⟩) d_Mo_keyed_9,
  r_bipush d_Mo_keyed_12 (by decide),
  r_ic_gt d_Mo_keyed_14 (by decide),
  r_iconst d_Mo_keyed_17 (by decide),
  r_goto d_Mo_keyed_18 (by decide),
  r_iconst d_Mo_keyed_21 (by decide),
  r_zreturn d_Mo_keyed_22 rfl, trivial⟩), (fun q h => by cases h), (fun _ => rfl)⟩
theorem d_Mo_merge_0 : decode b_Mo_merge 0 = .ok (.aload_n 0, 1) := by decide +kernel
theorem d_Mo_merge_1 : decode b_Mo_merge 1 = .ok (.invokevirtual 73, 3) := by decide +kernel
theorem d_Mo_merge_4 : decode b_Mo_merge 4 = .ok (.ireturn, 1) := by decide +kernel
def q_Mo_merge : List (Nat × j_S) := [(0, j_ld 2 0 1),
  (1, j_cv [(11, 103)] 0),
  (4, j_rt 0)]
def i_Mo_merge : j_I := (R_Mo, b_Mo_merge, 2, false, (some .int), [])
def e_Mo_merge : j_E := ((y_Mo_merge, c_Mo_merge), i_Mo_merge, j_tab q_Mo_merge, [])
theorem o_Mo_merge (G : j_G) : j_mok G tm e_Mo_merge := ⟨by decide +kernel, Or.inl ⟨rfl, rfl⟩, rfl, (fun h => by cases h), j_tab_ok (i := i_Mo_merge) (l := q_Mo_merge) (j_all_mem ⟨r_aload_n d_Mo_merge_0 rfl,
  r_invV (j_all_mem ⟨⟨⟨_, _, _, rfl, k_1362, k_1364, kp_Mo_present⟩, cw_Mo_present, by decide, by decide +kernel⟩, trivial⟩) d_Mo_merge_1,
  r_ireturn d_Mo_merge_4 rfl, trivial⟩), (fun q h => by cases h), (fun _ => rfl)⟩
theorem d_Mo_open_0 : decode b_Mo_open 0 = .ok (.aload_n 0, 1) := by decide +kernel
theorem d_Mo_open_1 : decode b_Mo_open 1 = .ok (.iconst 0, 1) := by decide +kernel
theorem d_Mo_open_2 : decode b_Mo_open 2 = .ok (.putfield 37, 3) := by decide +kernel
theorem d_Mo_open_5 : decode b_Mo_open 5 = .ok (.iload_n 1, 1) := by decide +kernel
theorem d_Mo_open_6 : decode b_Mo_open 6 = .ok (.ifCond .lt 9, 3) := by decide +kernel
theorem d_Mo_open_9 : decode b_Mo_open 9 = .ok (.iload_n 1, 1) := by decide +kernel
theorem d_Mo_open_10 : decode b_Mo_open 10 = .ok (.bipush 7, 2) := by decide +kernel
theorem d_Mo_open_12 : decode b_Mo_open 12 = .ok (.if_icmp .le 9, 3) := by decide +kernel
theorem d_Mo_open_15 : decode b_Mo_open 15 = .ok (.aload_n 0, 1) := by decide +kernel
theorem d_Mo_open_16 : decode b_Mo_open 16 = .ok (.iconst 1, 1) := by decide +kernel
theorem d_Mo_open_17 : decode b_Mo_open 17 = .ok (.invokevirtual 43, 3) := by decide +kernel
theorem d_Mo_open_20 : decode b_Mo_open 20 = .ok (.ireturn, 1) := by decide +kernel
theorem d_Mo_open_21 : decode b_Mo_open 21 = .ok (.aload_n 0, 1) := by decide +kernel
theorem d_Mo_open_22 : decode b_Mo_open 22 = .ok (.getfield 26, 3) := by decide +kernel
theorem d_Mo_open_25 : decode b_Mo_open 25 = .ok (.iload_n 1, 1) := by decide +kernel
theorem d_Mo_open_26 : decode b_Mo_open 26 = .ok (.baload, 1) := by decide +kernel
theorem d_Mo_open_27 : decode b_Mo_open 27 = .ok (.ifCond .eq 9, 3) := by decide +kernel
theorem d_Mo_open_30 : decode b_Mo_open 30 = .ok (.aload_n 0, 1) := by decide +kernel
theorem d_Mo_open_31 : decode b_Mo_open 31 = .ok (.iconst 2, 1) := by decide +kernel
theorem d_Mo_open_32 : decode b_Mo_open 32 = .ok (.invokevirtual 43, 3) := by decide +kernel
theorem d_Mo_open_35 : decode b_Mo_open 35 = .ok (.ireturn, 1) := by decide +kernel
theorem d_Mo_open_36 : decode b_Mo_open 36 = .ok (.aload_n 0, 1) := by decide +kernel
theorem d_Mo_open_37 : decode b_Mo_open 37 = .ok (.getfield 26, 3) := by decide +kernel
theorem d_Mo_open_40 : decode b_Mo_open 40 = .ok (.iload_n 1, 1) := by decide +kernel
theorem d_Mo_open_41 : decode b_Mo_open 41 = .ok (.iconst 1, 1) := by decide +kernel
theorem d_Mo_open_42 : decode b_Mo_open 42 = .ok (.bastore, 1) := by decide +kernel
theorem d_Mo_open_43 : decode b_Mo_open 43 = .ok (.aload_n 0, 1) := by decide +kernel
theorem d_Mo_open_44 : decode b_Mo_open 44 = .ok (.getfield 30, 3) := by decide +kernel
theorem d_Mo_open_47 : decode b_Mo_open 47 = .ok (.iload_n 1, 1) := by decide +kernel
theorem d_Mo_open_48 : decode b_Mo_open 48 = .ok (.aload_n 0, 1) := by decide +kernel
theorem d_Mo_open_49 : decode b_Mo_open 49 = .ok (.getfield 47, 3) := by decide +kernel
theorem d_Mo_open_52 : decode b_Mo_open 52 = .ok (.iastore, 1) := by decide +kernel
theorem d_Mo_open_53 : decode b_Mo_open 53 = .ok (.aload_n 0, 1) := by decide +kernel
theorem d_Mo_open_54 : decode b_Mo_open 54 = .ok (.getfield 47, 3) := by decide +kernel
theorem d_Mo_open_57 : decode b_Mo_open 57 = .ok (.ireturn, 1) := by decide +kernel
def q_Mo_open : List (Nat × j_S) := [(0, j_ld 2 0 1),
  (1, j_st (f_psh (.int 0)) 2),
  (2, j_pf [11] 0 0 5),
  (5, j_ld 0 1 6),
  (6, j_br (f_if (fun x => decide (x < 0))) 15 9),
  (9, j_ld 0 1 10),
  (10, j_st (f_psh (.int 7)) 12),
  (12, j_br (f_ic (fun x y => decide (x ≤ y))) 21 15),
  (15, j_ld 2 0 16),
  (16, j_st (f_psh (.int 1)) 17),
  (17, j_cv [(11, 94)] 1),
  (20, j_rt 0),
  (21, j_ld 2 0 22),
  (22, j_gf [11] 10 25),
  (25, j_ld 0 1 26),
  (26, j_alb 27),
  (27, j_br (f_if (fun x => decide (x = 0))) 36 30),
  (30, j_ld 2 0 31),
  (31, j_st (f_psh (.int 2)) 32),
  (32, j_cv [(11, 94)] 1),
  (35, j_rt 0),
  (36, j_ld 2 0 37),
  (37, j_gf [11] 10 40),
  (40, j_ld 0 1 41),
  (41, j_st (f_psh (.int 1)) 42),
  (42, j_abz 43),
  (43, j_ld 2 0 44),
  (44, j_gf [11] 11 47),
  (47, j_ld 0 1 48),
  (48, j_ld 2 0 49),
  (49, j_gf [11] 2 52),
  (52, j_ai 53),
  (53, j_ld 2 0 54),
  (54, j_gf [11] 2 57),
  (57, j_rt 0)]
def i_Mo_open : j_I := (R_Mo, b_Mo_open, 2, false, (some .int), [])
def e_Mo_open : j_E := ((y_Mo_open, c_Mo_open), i_Mo_open, j_tab q_Mo_open, [])
theorem o_Mo_open (G : j_G) : j_mok G tm e_Mo_open := ⟨by decide +kernel, Or.inl ⟨rfl, rfl⟩, rfl, (fun h => by cases h), j_tab_ok (i := i_Mo_open) (l := q_Mo_open) (j_all_mem ⟨r_aload_n d_Mo_open_0 rfl,
  r_iconst d_Mo_open_1 (by decide),
  r_putfield (fin := false) (j_all_mem ⟨⟨_, _, _, t_Mo, _, rfl, w_Mo, t_Mo_ok, n_Mo, by decide, rfl, t_Mo_ok 0 (by decide), Or.inl ⟨rfl, rfl⟩, ⟨_, k_1251, Or.inl rfl⟩, (fun h => by cases h)⟩, trivial⟩) (fun h => by cases h) d_Mo_open_2,
  r_iload_n d_Mo_open_5 rfl,
  r_if_lt d_Mo_open_6 (by decide),
  r_iload_n d_Mo_open_9 rfl,
  r_bipush d_Mo_open_10 (by decide),
  r_ic_le d_Mo_open_12 (by decide),
  r_aload_n d_Mo_open_15 rfl,
  r_iconst d_Mo_open_16 (by decide),
  r_invV (j_all_mem ⟨⟨⟨_, _, _, rfl, k_1297, k_1299, kp_Mo_fail⟩, cw_Mo_fail, by decide, by decide +kernel⟩, trivial⟩) d_Mo_open_17,
  r_ireturn d_Mo_open_20 rfl,
  r_aload_n d_Mo_open_21 rfl,
  r_getfield (j_all_mem ⟨⟨_, _, _, rfl, w_Mo, by decide, ⟨_, k_1260, Or.inl rfl⟩⟩, trivial⟩) d_Mo_open_22,
  r_iload_n d_Mo_open_25 rfl,
  r_baload2 d_Mo_open_26,
  r_if_eq d_Mo_open_27 (by decide),
  r_aload_n d_Mo_open_30 rfl,
  r_iconst d_Mo_open_31 (by decide),
  r_invV (j_all_mem ⟨⟨⟨_, _, _, rfl, k_1297, k_1299, kp_Mo_fail⟩, cw_Mo_fail, by decide, by decide +kernel⟩, trivial⟩) d_Mo_open_32,
  r_ireturn d_Mo_open_35 rfl,
  r_aload_n d_Mo_open_36 rfl,
  r_getfield (j_all_mem ⟨⟨_, _, _, rfl, w_Mo, by decide, ⟨_, k_1260, Or.inl rfl⟩⟩, trivial⟩) d_Mo_open_37,
  r_iload_n d_Mo_open_40 rfl,
  r_iconst d_Mo_open_41 (by decide),
  r_bastore2 d_Mo_open_42,
  r_aload_n d_Mo_open_43 rfl,
  r_getfield (j_all_mem ⟨⟨_, _, _, rfl, w_Mo, by decide, ⟨_, k_1261, Or.inl rfl⟩⟩, trivial⟩) d_Mo_open_44,
  r_iload_n d_Mo_open_47 rfl,
  r_aload_n d_Mo_open_48 rfl,
  r_getfield (j_all_mem ⟨⟨_, _, _, rfl, w_Mo, by decide, ⟨_, k_1258, Or.inl rfl⟩⟩, trivial⟩) d_Mo_open_49,
  r_iastore d_Mo_open_52,
  r_aload_n d_Mo_open_53 rfl,
  r_getfield (j_all_mem ⟨⟨_, _, _, rfl, w_Mo, by decide, ⟨_, k_1258, Or.inl rfl⟩⟩, trivial⟩) d_Mo_open_54,
  r_ireturn d_Mo_open_57 rfl, trivial⟩), (fun q h => by cases h), (fun _ => rfl)⟩
theorem d_Mo_out_0 : decode b_Mo_out 0 = .ok (.aload_n 0, 1) := by decide +kernel
theorem d_Mo_out_1 : decode b_Mo_out 1 = .ok (.iconst 0, 1) := by decide +kernel
theorem d_Mo_out_2 : decode b_Mo_out 2 = .ok (.putfield 37, 3) := by decide +kernel
theorem d_Mo_out_5 : decode b_Mo_out 5 = .ok (.aload_n 0, 1) := by decide +kernel
theorem d_Mo_out_6 : decode b_Mo_out 6 = .ok (.invokevirtual 57, 3) := by decide +kernel
theorem d_Mo_out_9 : decode b_Mo_out 9 = .ok (.ifCond .ne 9, 3) := by decide +kernel
theorem d_Mo_out_12 : decode b_Mo_out 12 = .ok (.aload_n 0, 1) := by decide +kernel
theorem d_Mo_out_13 : decode b_Mo_out 13 = .ok (.iconst 1, 1) := by decide +kernel
theorem d_Mo_out_14 : decode b_Mo_out 14 = .ok (.invokevirtual 43, 3) := by decide +kernel
theorem d_Mo_out_17 : decode b_Mo_out 17 = .ok (.ireturn, 1) := by decide +kernel
theorem d_Mo_out_18 : decode b_Mo_out 18 = .ok (.aload_n 0, 1) := by decide +kernel
theorem d_Mo_out_19 : decode b_Mo_out 19 = .ok (.iconst 0, 1) := by decide +kernel
theorem d_Mo_out_20 : decode b_Mo_out 20 = .ok (.iconst (-1), 1) := by decide +kernel
theorem d_Mo_out_21 : decode b_Mo_out 21 = .ok (.invokevirtual 61, 3) := by decide +kernel
theorem d_Mo_out_24 : decode b_Mo_out 24 = .ok (.ireturn, 1) := by decide +kernel
def q_Mo_out : List (Nat × j_S) := [(0, j_ld 2 0 1),
  (1, j_st (f_psh (.int 0)) 2),
  (2, j_pf [11] 0 0 5),
  (5, j_ld 2 0 6),
  (6, j_cv [(11, 99)] 0),
  (9, j_br (f_if (fun x => decide (¬ x = 0))) 18 12),
  (12, j_ld 2 0 13),
  (13, j_st (f_psh (.int 1)) 14),
  (14, j_cv [(11, 94)] 1),
  (17, j_rt 0),
  (18, j_ld 2 0 19),
  (19, j_st (f_psh (.int 0)) 20),
  (20, j_st (f_psh (.int (-1))) 21),
  (21, j_cv [(11, 93)] 2),
  (24, j_rt 0)]
def i_Mo_out : j_I := (R_Mo, b_Mo_out, 1, false, (some .int), [])
def e_Mo_out : j_E := ((y_Mo_out, c_Mo_out), i_Mo_out, j_tab q_Mo_out, [])
theorem o_Mo_out (G : j_G) : j_mok G tm e_Mo_out := ⟨by decide +kernel, Or.inl ⟨rfl, rfl⟩, rfl, (fun h => by cases h), j_tab_ok (i := i_Mo_out) (l := q_Mo_out) (j_all_mem ⟨r_aload_n d_Mo_out_0 rfl,
  r_iconst d_Mo_out_1 (by decide),
  r_putfield (fin := false) (j_all_mem ⟨⟨_, _, _, t_Mo, _, rfl, w_Mo, t_Mo_ok, n_Mo, by decide, rfl, t_Mo_ok 0 (by decide), Or.inl ⟨rfl, rfl⟩, ⟨_, k_1251, Or.inl rfl⟩, (fun h => by cases h)⟩, trivial⟩) (fun h => by cases h) d_Mo_out_2,
  r_aload_n d_Mo_out_5 rfl,
  r_invV (j_all_mem ⟨⟨⟨_, _, _, rfl, k_1309, k_1311, kp_Mo_keyed⟩, cw_Mo_keyed, by decide, by decide +kernel⟩, trivial⟩) d_Mo_out_6,
  r_if_ne d_Mo_out_9 (by decide),
  r_aload_n d_Mo_out_12 rfl,
  r_iconst d_Mo_out_13 (by decide),
  r_invV (j_all_mem ⟨⟨⟨_, _, _, rfl, k_1297, k_1299, kp_Mo_fail⟩, cw_Mo_fail, by decide, by decide +kernel⟩, trivial⟩) d_Mo_out_14,
  r_ireturn d_Mo_out_17 rfl,
  r_aload_n d_Mo_out_18 rfl,
  r_iconst d_Mo_out_19 (by decide),
  r_iconst d_Mo_out_20 (by decide),
  r_invV (j_all_mem ⟨⟨⟨_, _, _, rfl, k_1313, k_1315, kp_Mo_enter⟩, cw_Mo_enter, by decide, by decide +kernel⟩, trivial⟩) d_Mo_out_21,
  r_ireturn d_Mo_out_24 rfl, trivial⟩), (fun q h => by cases h), (fun _ => rfl)⟩
theorem d_Mo_present_0 : decode b_Mo_present 0 = .ok (.aload_n 0, 1) := by decide +kernel
theorem d_Mo_present_1 : decode b_Mo_present 1 = .ok (.iconst 0, 1) := by decide +kernel
theorem d_Mo_present_2 : decode b_Mo_present 2 = .ok (.putfield 37, 3) := by decide +kernel
theorem d_Mo_present_5 : decode b_Mo_present 5 = .ok (.aload_n 0, 1) := by decide +kernel
theorem d_Mo_present_6 : decode b_Mo_present 6 = .ok (.getfield 54, 3) := by decide +kernel
theorem d_Mo_present_9 : decode b_Mo_present 9 = .ok (.ireturn, 1) := by decide +kernel
def q_Mo_present : List (Nat × j_S) := [(0, j_ld 2 0 1),
  (1, j_st (f_psh (.int 0)) 2),
  (2, j_pf [11] 0 0 5),
  (5, j_ld 2 0 6),
  (6, j_gf [11] 3 9),
  (9, j_rt 0)]
def i_Mo_present : j_I := (R_Mo, b_Mo_present, 1, false, (some .int), [])
def e_Mo_present : j_E := ((y_Mo_present, c_Mo_present), i_Mo_present, j_tab q_Mo_present, [])
theorem o_Mo_present (G : j_G) : j_mok G tm e_Mo_present := ⟨by decide +kernel, Or.inl ⟨rfl, rfl⟩, rfl, (fun h => by cases h), j_tab_ok (i := i_Mo_present) (l := q_Mo_present) (j_all_mem ⟨r_aload_n d_Mo_present_0 rfl,
  r_iconst d_Mo_present_1 (by decide),
  r_putfield (fin := false) (j_all_mem ⟨⟨_, _, _, t_Mo, _, rfl, w_Mo, t_Mo_ok, n_Mo, by decide, rfl, t_Mo_ok 0 (by decide), Or.inl ⟨rfl, rfl⟩, ⟨_, k_1251, Or.inl rfl⟩, (fun h => by cases h)⟩, trivial⟩) (fun h => by cases h) d_Mo_present_2,
  r_aload_n d_Mo_present_5 rfl,
  r_getfield (j_all_mem ⟨⟨_, _, _, rfl, w_Mo, by decide, ⟨_, k_1259, Or.inl rfl⟩⟩, trivial⟩) d_Mo_present_6,
  r_ireturn d_Mo_present_9 rfl, trivial⟩), (fun q h => by cases h), (fun _ => rfl)⟩
theorem d_Mo_put_0 : decode b_Mo_put 0 = .ok (.aload_n 0, 1) := by decide +kernel
theorem d_Mo_put_1 : decode b_Mo_put 1 = .ok (.iconst 0, 1) := by decide +kernel
theorem d_Mo_put_2 : decode b_Mo_put 2 = .ok (.putfield 37, 3) := by decide +kernel
theorem d_Mo_put_5 : decode b_Mo_put 5 = .ok (.aload_n 0, 1) := by decide +kernel
theorem d_Mo_put_6 : decode b_Mo_put 6 = .ok (.invokevirtual 57, 3) := by decide +kernel
theorem d_Mo_put_9 : decode b_Mo_put 9 = .ok (.ifCond .eq 18, 3) := by decide +kernel
theorem d_Mo_put_12 : decode b_Mo_put 12 = .ok (.iload_n 1, 1) := by decide +kernel
theorem d_Mo_put_13 : decode b_Mo_put 13 = .ok (.ifCond .lt 14, 3) := by decide +kernel
theorem d_Mo_put_16 : decode b_Mo_put 16 = .ok (.iload_n 2, 1) := by decide +kernel
theorem d_Mo_put_17 : decode b_Mo_put 17 = .ok (.ifCond .lt 10, 3) := by decide +kernel
theorem d_Mo_put_20 : decode b_Mo_put 20 = .ok (.iload_n 2, 1) := by decide +kernel
theorem d_Mo_put_21 : decode b_Mo_put 21 = .ok (.sipush 1000, 3) := by decide +kernel
theorem d_Mo_put_24 : decode b_Mo_put 24 = .ok (.if_icmp .le 9, 3) := by decide +kernel
theorem d_Mo_put_27 : decode b_Mo_put 27 = .ok (.aload_n 0, 1) := by decide +kernel
theorem d_Mo_put_28 : decode b_Mo_put 28 = .ok (.iconst 1, 1) := by decide +kernel
theorem d_Mo_put_29 : decode b_Mo_put 29 = .ok (.invokevirtual 43, 3) := by decide +kernel
theorem d_Mo_put_32 : decode b_Mo_put 32 = .ok (.ireturn, 1) := by decide +kernel
theorem d_Mo_put_33 : decode b_Mo_put 33 = .ok (.aload_n 0, 1) := by decide +kernel
theorem d_Mo_put_34 : decode b_Mo_put 34 = .ok (.iload_n 1, 1) := by decide +kernel
theorem d_Mo_put_35 : decode b_Mo_put 35 = .ok (.iload_n 2, 1) := by decide +kernel
theorem d_Mo_put_36 : decode b_Mo_put 36 = .ok (.invokevirtual 61, 3) := by decide +kernel
theorem d_Mo_put_39 : decode b_Mo_put 39 = .ok (.ireturn, 1) := by decide +kernel
def q_Mo_put : List (Nat × j_S) := [(0, j_ld 2 0 1),
  (1, j_st (f_psh (.int 0)) 2),
  (2, j_pf [11] 0 0 5),
  (5, j_ld 2 0 6),
  (6, j_cv [(11, 99)] 0),
  (9, j_br (f_if (fun x => decide (x = 0))) 27 12),
  (12, j_ld 0 1 13),
  (13, j_br (f_if (fun x => decide (x < 0))) 27 16),
  (16, j_ld 0 2 17),
  (17, j_br (f_if (fun x => decide (x < 0))) 27 20),
  (20, j_ld 0 2 21),
  (21, j_st (f_psh (.int 1000)) 24),
  (24, j_br (f_ic (fun x y => decide (x ≤ y))) 33 27),
  (27, j_ld 2 0 28),
  (28, j_st (f_psh (.int 1)) 29),
  (29, j_cv [(11, 94)] 1),
  (32, j_rt 0),
  (33, j_ld 2 0 34),
  (34, j_ld 0 1 35),
  (35, j_ld 0 2 36),
  (36, j_cv [(11, 93)] 2),
  (39, j_rt 0)]
def i_Mo_put : j_I := (R_Mo, b_Mo_put, 3, false, (some .int), [])
def e_Mo_put : j_E := ((y_Mo_put, c_Mo_put), i_Mo_put, j_tab q_Mo_put, [])
theorem o_Mo_put (G : j_G) : j_mok G tm e_Mo_put := ⟨by decide +kernel, Or.inl ⟨rfl, rfl⟩, rfl, (fun h => by cases h), j_tab_ok (i := i_Mo_put) (l := q_Mo_put) (j_all_mem ⟨r_aload_n d_Mo_put_0 rfl,
  r_iconst d_Mo_put_1 (by decide),
  r_putfield (fin := false) (j_all_mem ⟨⟨_, _, _, t_Mo, _, rfl, w_Mo, t_Mo_ok, n_Mo, by decide, rfl, t_Mo_ok 0 (by decide), Or.inl ⟨rfl, rfl⟩, ⟨_, k_1251, Or.inl rfl⟩, (fun h => by cases h)⟩, trivial⟩) (fun h => by cases h) d_Mo_put_2,
  r_aload_n d_Mo_put_5 rfl,
  r_invV (j_all_mem ⟨⟨⟨_, _, _, rfl, k_1309, k_1311, kp_Mo_keyed⟩, cw_Mo_keyed, by decide, by decide +kernel⟩, trivial⟩) d_Mo_put_6,
  r_if_eq d_Mo_put_9 (by decide),
  r_iload_n d_Mo_put_12 rfl,
  r_if_lt d_Mo_put_13 (by decide),
  r_iload_n d_Mo_put_16 rfl,
  r_if_lt d_Mo_put_17 (by decide),
  r_iload_n d_Mo_put_20 rfl,
  r_sipush d_Mo_put_21 (by decide),
  r_ic_le d_Mo_put_24 (by decide),
  r_aload_n d_Mo_put_27 rfl,
  r_iconst d_Mo_put_28 (by decide),
  r_invV (j_all_mem ⟨⟨⟨_, _, _, rfl, k_1297, k_1299, kp_Mo_fail⟩, cw_Mo_fail, by decide, by decide +kernel⟩, trivial⟩) d_Mo_put_29,
  r_ireturn d_Mo_put_32 rfl,
  r_aload_n d_Mo_put_33 rfl,
  r_iload_n d_Mo_put_34 rfl,
  r_iload_n d_Mo_put_35 rfl,
  r_invV (j_all_mem ⟨⟨⟨_, _, _, rfl, k_1313, k_1315, kp_Mo_enter⟩, cw_Mo_enter, by decide, by decide +kernel⟩, trivial⟩) d_Mo_put_36,
  r_ireturn d_Mo_put_39 rfl, trivial⟩), (fun q h => by cases h), (fun _ => rfl)⟩
theorem d_Mo_seek_0 : decode b_Mo_seek 0 = .ok (.aload_n 0, 1) := by decide +kernel
theorem d_Mo_seek_1 : decode b_Mo_seek 1 = .ok (.iconst 0, 1) := by decide +kernel
theorem d_Mo_seek_2 : decode b_Mo_seek 2 = .ok (.putfield 37, 3) := by decide +kernel
theorem d_Mo_seek_5 : decode b_Mo_seek 5 = .ok (.aload_n 0, 1) := by decide +kernel
theorem d_Mo_seek_6 : decode b_Mo_seek 6 = .ok (.getfield 40, 3) := by decide +kernel
theorem d_Mo_seek_9 : decode b_Mo_seek 9 = .ok (.bipush 40, 2) := by decide +kernel
theorem d_Mo_seek_11 : decode b_Mo_seek 11 = .ok (.if_icmp .gt 14, 3) := by decide +kernel
theorem d_Mo_seek_14 : decode b_Mo_seek 14 = .ok (.iload_n 1, 1) := by decide +kernel
theorem d_Mo_seek_15 : decode b_Mo_seek 15 = .ok (.iconst (-1), 1) := by decide +kernel
theorem d_Mo_seek_16 : decode b_Mo_seek 16 = .ok (.if_icmp .lt 9, 3) := by decide +kernel
theorem d_Mo_seek_19 : decode b_Mo_seek 19 = .ok (.iload_n 1, 1) := by decide +kernel
theorem d_Mo_seek_20 : decode b_Mo_seek 20 = .ok (.bipush 7, 2) := by decide +kernel
theorem d_Mo_seek_22 : decode b_Mo_seek 22 = .ok (.if_icmp .le 9, 3) := by decide +kernel
theorem d_Mo_seek_25 : decode b_Mo_seek 25 = .ok (.aload_n 0, 1) := by decide +kernel
theorem d_Mo_seek_26 : decode b_Mo_seek 26 = .ok (.iconst 1, 1) := by decide +kernel
theorem d_Mo_seek_27 : decode b_Mo_seek 27 = .ok (.invokevirtual 43, 3) := by decide +kernel
theorem d_Mo_seek_30 : decode b_Mo_seek 30 = .ok (.ireturn, 1) := by decide +kernel
theorem d_Mo_seek_31 : decode b_Mo_seek 31 = .ok (.aload_n 0, 1) := by decide +kernel
theorem d_Mo_seek_32 : decode b_Mo_seek 32 = .ok (.getfield 40, 3) := by decide +kernel
theorem d_Mo_seek_35 : decode b_Mo_seek 35 = .ok (.istore_n 3, 1) := by decide +kernel
theorem d_Mo_seek_36 : decode b_Mo_seek 36 = .ok (.aload_n 0, 1) := by decide +kernel
theorem d_Mo_seek_37 : decode b_Mo_seek 37 = .ok (.iconst 0, 1) := by decide +kernel
theorem d_Mo_seek_38 : decode b_Mo_seek 38 = .ok (.putfield 40, 3) := by decide +kernel
theorem d_Mo_seek_41 : decode b_Mo_seek 41 = .ok (.iload_n 1, 1) := by decide +kernel
theorem d_Mo_seek_42 : decode b_Mo_seek 42 = .ok (.ifCond .lt 18, 3) := by decide +kernel
theorem d_Mo_seek_45 : decode b_Mo_seek 45 = .ok (.aload_n 0, 1) := by decide +kernel
theorem d_Mo_seek_46 : decode b_Mo_seek 46 = .ok (.getfield 26, 3) := by decide +kernel
theorem d_Mo_seek_49 : decode b_Mo_seek 49 = .ok (.iload_n 1, 1) := by decide +kernel
theorem d_Mo_seek_50 : decode b_Mo_seek 50 = .ok (.baload, 1) := by decide +kernel
theorem d_Mo_seek_51 : decode b_Mo_seek 51 = .ok (.ifCond .ne 9, 3) := by decide +kernel
theorem d_Mo_seek_54 : decode b_Mo_seek 54 = .ok (.aload_n 0, 1) := by decide +kernel
theorem d_Mo_seek_55 : decode b_Mo_seek 55 = .ok (.iconst 2, 1) := by decide +kernel
theorem d_Mo_seek_56 : decode b_Mo_seek 56 = .ok (.invokevirtual 43, 3) := by decide +kernel
theorem d_Mo_seek_59 : decode b_Mo_seek 59 = .ok (.ireturn, 1) := by decide +kernel
theorem d_Mo_seek_60 : decode b_Mo_seek 60 = .ok (.iload_n 1, 1) := by decide +kernel
theorem d_Mo_seek_61 : decode b_Mo_seek 61 = .ok (.ifCond .ge 10, 3) := by decide +kernel
theorem d_Mo_seek_64 : decode b_Mo_seek 64 = .ok (.aload_n 0, 1) := by decide +kernel
theorem d_Mo_seek_65 : decode b_Mo_seek 65 = .ok (.getfield 47, 3) := by decide +kernel
theorem d_Mo_seek_68 : decode b_Mo_seek 68 = .ok (.goto 9, 3) := by decide +kernel
theorem d_Mo_seek_71 : decode b_Mo_seek 71 = .ok (.aload_n 0, 1) := by decide +kernel
theorem d_Mo_seek_72 : decode b_Mo_seek 72 = .ok (.getfield 30, 3) := by decide +kernel
theorem d_Mo_seek_75 : decode b_Mo_seek 75 = .ok (.iload_n 1, 1) := by decide +kernel
theorem d_Mo_seek_76 : decode b_Mo_seek 76 = .ok (.iaload, 1) := by decide +kernel
theorem d_Mo_seek_77 : decode b_Mo_seek 77 = .ok (.istore 4, 2) := by decide +kernel
theorem d_Mo_seek_79 : decode b_Mo_seek 79 = .ok (.aload_n 0, 1) := by decide +kernel
theorem d_Mo_seek_80 : decode b_Mo_seek 80 = .ok (.iconst (-1), 1) := by decide +kernel
theorem d_Mo_seek_81 : decode b_Mo_seek 81 = .ok (.putfield 33, 3) := by decide +kernel
theorem d_Mo_seek_84 : decode b_Mo_seek 84 = .ok (.iconst 0, 1) := by decide +kernel
theorem d_Mo_seek_85 : decode b_Mo_seek 85 = .ok (.istore 5, 2) := by decide +kernel
theorem d_Mo_seek_87 : decode b_Mo_seek 87 = .ok (.iload 5, 2) := by decide +kernel
theorem d_Mo_seek_89 : decode b_Mo_seek 89 = .ok (.iload 4, 2) := by decide +kernel
theorem d_Mo_seek_91 : decode b_Mo_seek 91 = .ok (.if_icmp .ge 75, 3) := by decide +kernel
theorem d_Mo_seek_94 : decode b_Mo_seek 94 = .ok (.aload_n 0, 1) := by decide +kernel
theorem d_Mo_seek_95 : decode b_Mo_seek 95 = .ok (.iload 5, 2) := by decide +kernel
theorem d_Mo_seek_97 : decode b_Mo_seek 97 = .ok (.iload_n 3, 1) := by decide +kernel
theorem d_Mo_seek_98 : decode b_Mo_seek 98 = .ok (.invokevirtual 50, 3) := by decide +kernel
theorem d_Mo_seek_101 : decode b_Mo_seek 101 = .ok (.istore 6, 2) := by decide +kernel
theorem d_Mo_seek_103 : decode b_Mo_seek 103 = .ok (.iload 6, 2) := by decide +kernel
theorem d_Mo_seek_105 : decode b_Mo_seek 105 = .ok (.ifCond .lt 55, 3) := by decide +kernel
theorem d_Mo_seek_108 : decode b_Mo_seek 108 = .ok (.iload_n 2, 1) := by decide +kernel
theorem d_Mo_seek_109 : decode b_Mo_seek 109 = .ok (.ifCond .eq 11, 3) := by decide +kernel
theorem d_Mo_seek_112 : decode b_Mo_seek 112 = .ok (.iload 6, 2) := by decide +kernel
theorem d_Mo_seek_114 : decode b_Mo_seek 114 = .ok (.ifCond .ne 6, 3) := by decide +kernel
theorem d_Mo_seek_117 : decode b_Mo_seek 117 = .ok (.goto 43, 3) := by decide +kernel
theorem d_Mo_seek_120 : decode b_Mo_seek 120 = .ok (.aload_n 0, 1) := by decide +kernel
theorem d_Mo_seek_121 : decode b_Mo_seek 121 = .ok (.getfield 33, 3) := by decide +kernel
theorem d_Mo_seek_124 : decode b_Mo_seek 124 = .ok (.ifCond .lt 19, 3) := by decide +kernel
theorem d_Mo_seek_127 : decode b_Mo_seek 127 = .ok (.aload_n 0, 1) := by decide +kernel
theorem d_Mo_seek_128 : decode b_Mo_seek 128 = .ok (.iload 5, 2) := by decide +kernel
theorem d_Mo_seek_130 : decode b_Mo_seek 130 = .ok (.aload_n 0, 1) := by decide +kernel
theorem d_Mo_seek_131 : decode b_Mo_seek 131 = .ok (.getfield 33, 3) := by decide +kernel
theorem d_Mo_seek_134 : decode b_Mo_seek 134 = .ok (.invokevirtual 64, 3) := by decide +kernel
theorem d_Mo_seek_137 : decode b_Mo_seek 137 = .ok (.ifCond .lt 6, 3) := by decide +kernel
theorem d_Mo_seek_140 : decode b_Mo_seek 140 = .ok (.goto 20, 3) := by decide +kernel
theorem d_Mo_seek_143 : decode b_Mo_seek 143 = .ok (.aload_n 0, 1) := by decide +kernel
theorem d_Mo_seek_144 : decode b_Mo_seek 144 = .ok (.iload 5, 2) := by decide +kernel
theorem d_Mo_seek_146 : decode b_Mo_seek 146 = .ok (.iload 4, 2) := by decide +kernel
theorem d_Mo_seek_148 : decode b_Mo_seek 148 = .ok (.invokevirtual 67, 3) := by decide +kernel
theorem d_Mo_seek_151 : decode b_Mo_seek 151 = .ok (.ifCond .eq 9, 3) := by decide +kernel
theorem d_Mo_seek_154 : decode b_Mo_seek 154 = .ok (.aload_n 0, 1) := by decide +kernel
theorem d_Mo_seek_155 : decode b_Mo_seek 155 = .ok (.iload 5, 2) := by decide +kernel
theorem d_Mo_seek_157 : decode b_Mo_seek 157 = .ok (.putfield 33, 3) := by decide +kernel
theorem d_Mo_seek_160 : decode b_Mo_seek 160 = .ok (.iinc 5 1, 3) := by decide +kernel
theorem d_Mo_seek_163 : decode b_Mo_seek 163 = .ok (.goto (-76), 3) := by decide +kernel
theorem d_Mo_seek_166 : decode b_Mo_seek 166 = .ok (.aload_n 0, 1) := by decide +kernel
theorem d_Mo_seek_167 : decode b_Mo_seek 167 = .ok (.getfield 33, 3) := by decide +kernel
theorem d_Mo_seek_170 : decode b_Mo_seek 170 = .ok (.ifCond .ge 11, 3) := by decide +kernel
theorem d_Mo_seek_173 : decode b_Mo_seek 173 = .ok (.aload_n 0, 1) := by decide +kernel
theorem d_Mo_seek_174 : decode b_Mo_seek 174 = .ok (.iconst 3, 1) := by decide +kernel
theorem d_Mo_seek_175 : decode b_Mo_seek 175 = .ok (.invokevirtual 43, 3) := by decide +kernel
theorem d_Mo_seek_178 : decode b_Mo_seek 178 = .ok (.goto 12, 3) := by decide +kernel
theorem d_Mo_seek_181 : decode b_Mo_seek 181 = .ok (.aload_n 0, 1) := by decide +kernel
theorem d_Mo_seek_182 : decode b_Mo_seek 182 = .ok (.getfield 20, 3) := by decide +kernel
theorem d_Mo_seek_185 : decode b_Mo_seek 185 = .ok (.aload_n 0, 1) := by decide +kernel
theorem d_Mo_seek_186 : decode b_Mo_seek 186 = .ok (.getfield 33, 3) := by decide +kernel
theorem d_Mo_seek_189 : decode b_Mo_seek 189 = .ok (.iaload, 1) := by decide +kernel
theorem d_Mo_seek_190 : decode b_Mo_seek 190 = .ok (.ireturn, 1) := by decide +kernel
def q_Mo_seek : List (Nat × j_S) := [(0, j_ld 2 0 1),
  (1, j_st (f_psh (.int 0)) 2),
  (2, j_pf [11] 0 0 5),
  (5, j_ld 2 0 6),
  (6, j_gf [11] 1 9),
  (9, j_st (f_psh (.int 40)) 11),
  (11, j_br (f_ic (fun x y => decide (y < x))) 25 14),
  (14, j_ld 0 1 15),
  (15, j_st (f_psh (.int (-1))) 16),
  (16, j_br (f_ic (fun x y => decide (x < y))) 25 19),
  (19, j_ld 0 1 20),
  (20, j_st (f_psh (.int 7)) 22),
  (22, j_br (f_ic (fun x y => decide (x ≤ y))) 31 25),
  (25, j_ld 2 0 26),
  (26, j_st (f_psh (.int 1)) 27),
  (27, j_cv [(11, 94)] 1),
  (30, j_rt 0),
  (31, j_ld 2 0 32),
  (32, j_gf [11] 1 35),
  (35, j_so 0 3 36),
  (36, j_ld 2 0 37),
  (37, j_st (f_psh (.int 0)) 38),
  (38, j_pf [11] 1 0 41),
  (41, j_ld 0 1 42),
  (42, j_br (f_if (fun x => decide (x < 0))) 60 45),
  (45, j_ld 2 0 46),
  (46, j_gf [11] 10 49),
  (49, j_ld 0 1 50),
  (50, j_alb 51),
  (51, j_br (f_if (fun x => decide (¬ x = 0))) 60 54),
  (54, j_ld 2 0 55),
  (55, j_st (f_psh (.int 2)) 56),
  (56, j_cv [(11, 94)] 1),
  (59, j_rt 0),
  (60, j_ld 0 1 61),
  (61, j_br (f_if (fun x => decide (0 ≤ x))) 71 64),
  (64, j_ld 2 0 65),
  (65, j_gf [11] 2 68),
  (68, j_st f_id 77),
  (71, j_ld 2 0 72),
  (72, j_gf [11] 11 75),
  (75, j_ld 0 1 76),
  (76, j_al 0 77),
  (77, j_so 0 4 79),
  (79, j_ld 2 0 80),
  (80, j_st (f_psh (.int (-1))) 81),
  (81, j_pf [11] 4 0 84),
  (84, j_st (f_psh (.int 0)) 85),
  (85, j_so 0 5 87),
  (87, j_ld 0 5 89),
  (89, j_ld 0 4 91),
  (91, j_br (f_ic (fun x y => decide (y ≤ x))) 166 94),
  (94, j_ld 2 0 95),
  (95, j_ld 0 5 97),
  (97, j_ld 0 3 98),
  (98, j_cv [(11, 90)] 2),
  (101, j_so 0 6 103),
  (103, j_ld 0 6 105),
  (105, j_br (f_if (fun x => decide (x < 0))) 160 108),
  (108, j_ld 0 2 109),
  (109, j_br (f_if (fun x => decide (x = 0))) 120 112),
  (112, j_ld 0 6 114),
  (114, j_br (f_if (fun x => decide (¬ x = 0))) 120 117),
  (117, j_st f_id 160),
  (120, j_ld 2 0 121),
  (121, j_gf [11] 4 124),
  (124, j_br (f_if (fun x => decide (x < 0))) 143 127),
  (127, j_ld 2 0 128),
  (128, j_ld 0 5 130),
  (130, j_ld 2 0 131),
  (131, j_gf [11] 4 134),
  (134, j_cv [(11, 89)] 2),
  (137, j_br (f_if (fun x => decide (x < 0))) 143 140),
  (140, j_st f_id 160),
  (143, j_ld 2 0 144),
  (144, j_ld 0 5 146),
  (146, j_ld 0 4 148),
  (148, j_cv [(11, 106)] 2),
  (151, j_br (f_if (fun x => decide (x = 0))) 160 154),
  (154, j_ld 2 0 155),
  (155, j_ld 0 5 157),
  (157, j_pf [11] 4 0 160),
  (160, j_ic 5 1 163),
  (163, j_st f_id 87),
  (166, j_ld 2 0 167),
  (167, j_gf [11] 4 170),
  (170, j_br (f_if (fun x => decide (0 ≤ x))) 181 173),
  (173, j_ld 2 0 174),
  (174, j_st (f_psh (.int 3)) 175),
  (175, j_cv [(11, 94)] 1),
  (178, j_st f_id 190),
  (181, j_ld 2 0 182),
  (182, j_gf [11] 8 185),
  (185, j_ld 2 0 186),
  (186, j_gf [11] 4 189),
  (189, j_al 0 190),
  (190, j_rt 0)]
def i_Mo_seek : j_I := (R_Mo, b_Mo_seek, 7, false, (some .int), [])
def e_Mo_seek : j_E := ((y_Mo_seek, c_Mo_seek), i_Mo_seek, j_tab q_Mo_seek, [])
theorem o_Mo_seek (G : j_G) : j_mok G tm e_Mo_seek := ⟨by decide +kernel, Or.inl ⟨rfl, rfl⟩, rfl, (fun h => by cases h), j_tab_ok (i := i_Mo_seek) (l := q_Mo_seek) (j_all_mem ⟨r_aload_n d_Mo_seek_0 rfl,
  r_iconst d_Mo_seek_1 (by decide),
  r_putfield (fin := false) (j_all_mem ⟨⟨_, _, _, t_Mo, _, rfl, w_Mo, t_Mo_ok, n_Mo, by decide, rfl, t_Mo_ok 0 (by decide), Or.inl ⟨rfl, rfl⟩, ⟨_, k_1251, Or.inl rfl⟩, (fun h => by cases h)⟩, trivial⟩) (fun h => by cases h) d_Mo_seek_2,
  r_aload_n d_Mo_seek_5 rfl,
  r_getfield (j_all_mem ⟨⟨_, _, _, rfl, w_Mo, by decide, ⟨_, k_1253, Or.inl rfl⟩⟩, trivial⟩) d_Mo_seek_6,
  r_bipush d_Mo_seek_9 (by decide),
  r_ic_gt d_Mo_seek_11 (by decide),
  r_iload_n d_Mo_seek_14 rfl,
  r_iconst d_Mo_seek_15 (by decide),
  r_ic_lt d_Mo_seek_16 (by decide),
  r_iload_n d_Mo_seek_19 rfl,
  r_bipush d_Mo_seek_20 (by decide),
  r_ic_le d_Mo_seek_22 (by decide),
  r_aload_n d_Mo_seek_25 rfl,
  r_iconst d_Mo_seek_26 (by decide),
  r_invV (j_all_mem ⟨⟨⟨_, _, _, rfl, k_1297, k_1299, kp_Mo_fail⟩, cw_Mo_fail, by decide, by decide +kernel⟩, trivial⟩) d_Mo_seek_27,
  r_ireturn d_Mo_seek_30 rfl,
  r_aload_n d_Mo_seek_31 rfl,
  r_getfield (j_all_mem ⟨⟨_, _, _, rfl, w_Mo, by decide, ⟨_, k_1253, Or.inl rfl⟩⟩, trivial⟩) d_Mo_seek_32,
  r_istore_n d_Mo_seek_35 rfl (by decide),
  r_aload_n d_Mo_seek_36 rfl,
  r_iconst d_Mo_seek_37 (by decide),
  r_putfield (fin := false) (j_all_mem ⟨⟨_, _, _, t_Mo, _, rfl, w_Mo, t_Mo_ok, n_Mo, by decide, rfl, t_Mo_ok 1 (by decide), Or.inl ⟨rfl, rfl⟩, ⟨_, k_1253, Or.inl rfl⟩, (fun h => by cases h)⟩, trivial⟩) (fun h => by cases h) d_Mo_seek_38,
  r_iload_n d_Mo_seek_41 rfl,
  r_if_lt d_Mo_seek_42 (by decide),
  r_aload_n d_Mo_seek_45 rfl,
  r_getfield (j_all_mem ⟨⟨_, _, _, rfl, w_Mo, by decide, ⟨_, k_1260, Or.inl rfl⟩⟩, trivial⟩) d_Mo_seek_46,
  r_iload_n d_Mo_seek_49 rfl,
  r_baload2 d_Mo_seek_50,
  r_if_ne d_Mo_seek_51 (by decide),
  r_aload_n d_Mo_seek_54 rfl,
  r_iconst d_Mo_seek_55 (by decide),
  r_invV (j_all_mem ⟨⟨⟨_, _, _, rfl, k_1297, k_1299, kp_Mo_fail⟩, cw_Mo_fail, by decide, by decide +kernel⟩, trivial⟩) d_Mo_seek_56,
  r_ireturn d_Mo_seek_59 rfl,
  r_iload_n d_Mo_seek_60 rfl,
  r_if_ge d_Mo_seek_61 (by decide),
  r_aload_n d_Mo_seek_64 rfl,
  r_getfield (j_all_mem ⟨⟨_, _, _, rfl, w_Mo, by decide, ⟨_, k_1258, Or.inl rfl⟩⟩, trivial⟩) d_Mo_seek_65,
  r_goto d_Mo_seek_68 (by decide),
  r_aload_n d_Mo_seek_71 rfl,
  r_getfield (j_all_mem ⟨⟨_, _, _, rfl, w_Mo, by decide, ⟨_, k_1261, Or.inl rfl⟩⟩, trivial⟩) d_Mo_seek_72,
  r_iload_n d_Mo_seek_75 rfl,
  r_iaload d_Mo_seek_76,
  r_istore d_Mo_seek_77 (by decide),
  r_aload_n d_Mo_seek_79 rfl,
  r_iconst d_Mo_seek_80 (by decide),
  r_putfield (fin := false) (j_all_mem ⟨⟨_, _, _, t_Mo, _, rfl, w_Mo, t_Mo_ok, n_Mo, by decide, rfl, t_Mo_ok 4 (by decide), Or.inl ⟨rfl, rfl⟩, ⟨_, k_1262, Or.inl rfl⟩, (fun h => by cases h)⟩, trivial⟩) (fun h => by cases h) d_Mo_seek_81,
  r_iconst d_Mo_seek_84 (by decide),
  r_istore d_Mo_seek_85 (by decide),
  r_iload d_Mo_seek_87,
  r_iload d_Mo_seek_89,
  r_ic_ge d_Mo_seek_91 (by decide),
  r_aload_n d_Mo_seek_94 rfl,
  r_iload d_Mo_seek_95,
  r_iload_n d_Mo_seek_97 rfl,
  r_invV (j_all_mem ⟨⟨⟨_, _, _, rfl, k_1317, k_1319, kp_Mo_compareTape⟩, cw_Mo_compareTape, by decide, by decide +kernel⟩, trivial⟩) d_Mo_seek_98,
  r_istore d_Mo_seek_101 (by decide),
  r_iload d_Mo_seek_103,
  r_if_lt d_Mo_seek_105 (by decide),
  r_iload_n d_Mo_seek_108 rfl,
  r_if_eq d_Mo_seek_109 (by decide),
  r_iload d_Mo_seek_112,
  r_if_ne d_Mo_seek_114 (by decide),
  r_goto d_Mo_seek_117 (by decide),
  r_aload_n d_Mo_seek_120 rfl,
  r_getfield (j_all_mem ⟨⟨_, _, _, rfl, w_Mo, by decide, ⟨_, k_1262, Or.inl rfl⟩⟩, trivial⟩) d_Mo_seek_121,
  r_if_lt d_Mo_seek_124 (by decide),
  r_aload_n d_Mo_seek_127 rfl,
  r_iload d_Mo_seek_128,
  r_aload_n d_Mo_seek_130 rfl,
  r_getfield (j_all_mem ⟨⟨_, _, _, rfl, w_Mo, by decide, ⟨_, k_1262, Or.inl rfl⟩⟩, trivial⟩) d_Mo_seek_131,
  r_invV (j_all_mem ⟨⟨⟨_, _, _, rfl, k_1341, k_1343, kp_Mo_compare⟩, cw_Mo_compare, by decide, by decide +kernel⟩, trivial⟩) d_Mo_seek_134,
  r_if_lt d_Mo_seek_137 (by decide),
  r_goto d_Mo_seek_140 (by decide),
  r_aload_n d_Mo_seek_143 rfl,
  r_iload d_Mo_seek_144,
  r_iload d_Mo_seek_146,
  r_invV (j_all_mem ⟨⟨⟨_, _, _, rfl, k_1345, k_1347, kp_Mo_stands⟩, cw_Mo_stands, by decide, by decide +kernel⟩, trivial⟩) d_Mo_seek_148,
  r_if_eq d_Mo_seek_151 (by decide),
  r_aload_n d_Mo_seek_154 rfl,
  r_iload d_Mo_seek_155,
  r_putfield (fin := false) (j_all_mem ⟨⟨_, _, _, t_Mo, _, rfl, w_Mo, t_Mo_ok, n_Mo, by decide, rfl, t_Mo_ok 4 (by decide), Or.inl ⟨rfl, rfl⟩, ⟨_, k_1262, Or.inl rfl⟩, (fun h => by cases h)⟩, trivial⟩) (fun h => by cases h) d_Mo_seek_157,
  j_ok_ic d_Mo_seek_160 rfl (by decide) (by decide),
  r_goto d_Mo_seek_163 (by decide),
  r_aload_n d_Mo_seek_166 rfl,
  r_getfield (j_all_mem ⟨⟨_, _, _, rfl, w_Mo, by decide, ⟨_, k_1262, Or.inl rfl⟩⟩, trivial⟩) d_Mo_seek_167,
  r_if_ge d_Mo_seek_170 (by decide),
  r_aload_n d_Mo_seek_173 rfl,
  r_iconst d_Mo_seek_174 (by decide),
  r_invV (j_all_mem ⟨⟨⟨_, _, _, rfl, k_1297, k_1299, kp_Mo_fail⟩, cw_Mo_fail, by decide, by decide +kernel⟩, trivial⟩) d_Mo_seek_175,
  r_goto d_Mo_seek_178 (by decide),
  r_aload_n d_Mo_seek_181 rfl,
  r_getfield (j_all_mem ⟨⟨_, _, _, rfl, w_Mo, by decide, ⟨_, k_1256, Or.inl rfl⟩⟩, trivial⟩) d_Mo_seek_182,
  r_aload_n d_Mo_seek_185 rfl,
  r_getfield (j_all_mem ⟨⟨_, _, _, rfl, w_Mo, by decide, ⟨_, k_1262, Or.inl rfl⟩⟩, trivial⟩) d_Mo_seek_186,
  r_iaload d_Mo_seek_189,
  r_ireturn d_Mo_seek_190 rfl, trivial⟩), (fun q h => by cases h), (fun _ => rfl)⟩
theorem d_Mo_stands_0 : decode b_Mo_stands 0 = .ok (.iload_n 1, 1) := by decide +kernel
theorem d_Mo_stands_1 : decode b_Mo_stands 1 = .ok (.iload_n 2, 1) := by decide +kernel
theorem d_Mo_stands_2 : decode b_Mo_stands 2 = .ok (.if_icmp .ge 12, 3) := by decide +kernel
theorem d_Mo_stands_5 : decode b_Mo_stands 5 = .ok (.aload_n 0, 1) := by decide +kernel
theorem d_Mo_stands_6 : decode b_Mo_stands 6 = .ok (.getfield 23, 3) := by decide +kernel
theorem d_Mo_stands_9 : decode b_Mo_stands 9 = .ok (.iload_n 1, 1) := by decide +kernel
theorem d_Mo_stands_10 : decode b_Mo_stands 10 = .ok (.iaload, 1) := by decide +kernel
theorem d_Mo_stands_11 : decode b_Mo_stands 11 = .ok (.ifCond .ge 5, 3) := by decide +kernel
theorem d_Mo_stands_14 : decode b_Mo_stands 14 = .ok (.iconst 0, 1) := by decide +kernel
theorem d_Mo_stands_15 : decode b_Mo_stands 15 = .ok (.ireturn, 1) := by decide +kernel
theorem d_Mo_stands_16 : decode b_Mo_stands 16 = .ok (.iload_n 1, 1) := by decide +kernel
theorem d_Mo_stands_17 : decode b_Mo_stands 17 = .ok (.iconst 1, 1) := by decide +kernel
theorem d_Mo_stands_18 : decode b_Mo_stands 18 = .ok (.iadd, 1) := by decide +kernel
theorem d_Mo_stands_19 : decode b_Mo_stands 19 = .ok (.istore_n 3, 1) := by decide +kernel
theorem d_Mo_stands_20 : decode b_Mo_stands 20 = .ok (.iload_n 3, 1) := by decide +kernel
theorem d_Mo_stands_21 : decode b_Mo_stands 21 = .ok (.iload_n 2, 1) := by decide +kernel
theorem d_Mo_stands_22 : decode b_Mo_stands 22 = .ok (.if_icmp .ge 20, 3) := by decide +kernel
theorem d_Mo_stands_25 : decode b_Mo_stands 25 = .ok (.aload_n 0, 1) := by decide +kernel
theorem d_Mo_stands_26 : decode b_Mo_stands 26 = .ok (.iload_n 1, 1) := by decide +kernel
theorem d_Mo_stands_27 : decode b_Mo_stands 27 = .ok (.iload_n 3, 1) := by decide +kernel
theorem d_Mo_stands_28 : decode b_Mo_stands 28 = .ok (.invokevirtual 64, 3) := by decide +kernel
theorem d_Mo_stands_31 : decode b_Mo_stands 31 = .ok (.ifCond .ne 5, 3) := by decide +kernel
theorem d_Mo_stands_34 : decode b_Mo_stands 34 = .ok (.iconst 0, 1) := by decide +kernel
theorem d_Mo_stands_35 : decode b_Mo_stands 35 = .ok (.ireturn, 1) := by decide +kernel
theorem d_Mo_stands_36 : decode b_Mo_stands 36 = .ok (.iinc 3 1, 3) := by decide +kernel
theorem d_Mo_stands_39 : decode b_Mo_stands 39 = .ok (.goto (-19), 3) := by decide +kernel
theorem d_Mo_stands_42 : decode b_Mo_stands 42 = .ok (.iconst 1, 1) := by decide +kernel
theorem d_Mo_stands_43 : decode b_Mo_stands 43 = .ok (.ireturn, 1) := by decide +kernel
def q_Mo_stands : List (Nat × j_S) := [(0, j_ld 0 1 1),
  (1, j_ld 0 2 2),
  (2, j_br (f_ic (fun x y => decide (y ≤ x))) 14 5),
  (5, j_ld 2 0 6),
  (6, j_gf [11] 9 9),
  (9, j_ld 0 1 10),
  (10, j_al 0 11),
  (11, j_br (f_if (fun x => decide (0 ≤ x))) 16 14),
  (14, j_st (f_psh (.int 0)) 15),
  (15, j_rt 3),
  (16, j_ld 0 1 17),
  (17, j_st (f_psh (.int 1)) 18),
  (18, j_st (f_ii (fun a b => a + b)) 19),
  (19, j_so 0 3 20),
  (20, j_ld 0 3 21),
  (21, j_ld 0 2 22),
  (22, j_br (f_ic (fun x y => decide (y ≤ x))) 42 25),
  (25, j_ld 2 0 26),
  (26, j_ld 0 1 27),
  (27, j_ld 0 3 28),
  (28, j_cv [(11, 89)] 2),
  (31, j_br (f_if (fun x => decide (¬ x = 0))) 36 34),
  (34, j_st (f_psh (.int 0)) 35),
  (35, j_rt 3),
  (36, j_ic 3 1 39),
  (39, j_st f_id 20),
  (42, j_st (f_psh (.int 1)) 43),
  (43, j_rt 3)]
def i_Mo_stands : j_I := (R_Mo, b_Mo_stands, 4, false, (some .boolean), [])
def e_Mo_stands : j_E := ((y_Mo_stands, c_Mo_stands), i_Mo_stands, j_tab q_Mo_stands, [])
theorem o_Mo_stands (G : j_G) : j_mok G tm e_Mo_stands := ⟨by decide +kernel, Or.inl ⟨rfl, rfl⟩, rfl, (fun h => by cases h), j_tab_ok (i := i_Mo_stands) (l := q_Mo_stands) (j_all_mem ⟨r_iload_n d_Mo_stands_0 rfl,
  r_iload_n d_Mo_stands_1 rfl,
  r_ic_ge d_Mo_stands_2 (by decide),
  r_aload_n d_Mo_stands_5 rfl,
  r_getfield (j_all_mem ⟨⟨_, _, _, rfl, w_Mo, by decide, ⟨_, k_1257, Or.inl rfl⟩⟩, trivial⟩) d_Mo_stands_6,
  r_iload_n d_Mo_stands_9 rfl,
  r_iaload d_Mo_stands_10,
  r_if_ge d_Mo_stands_11 (by decide),
  r_iconst d_Mo_stands_14 (by decide),
  r_zreturn d_Mo_stands_15 rfl,
  r_iload_n d_Mo_stands_16 rfl,
  r_iconst d_Mo_stands_17 (by decide),
  r_iadd d_Mo_stands_18,
  r_istore_n d_Mo_stands_19 rfl (by decide),
  r_iload_n d_Mo_stands_20 rfl,
  r_iload_n d_Mo_stands_21 rfl,
  r_ic_ge d_Mo_stands_22 (by decide),
  r_aload_n d_Mo_stands_25 rfl,
  r_iload_n d_Mo_stands_26 rfl,
  r_iload_n d_Mo_stands_27 rfl,
  r_invV (j_all_mem ⟨⟨⟨_, _, _, rfl, k_1341, k_1343, kp_Mo_compare⟩, cw_Mo_compare, by decide, by decide +kernel⟩, trivial⟩) d_Mo_stands_28,
  r_if_ne d_Mo_stands_31 (by decide),
  r_iconst d_Mo_stands_34 (by decide),
  r_zreturn d_Mo_stands_35 rfl,
  j_ok_ic d_Mo_stands_36 rfl (by decide) (by decide),
  r_goto d_Mo_stands_39 (by decide),
  r_iconst d_Mo_stands_42 (by decide),
  r_zreturn d_Mo_stands_43 rfl, trivial⟩), (fun q h => by cases h), (fun _ => rfl)⟩
theorem d_Mo_thrown_0 : decode b_Mo_thrown 0 = .ok (.aload_n 0, 1) := by decide +kernel
theorem d_Mo_thrown_1 : decode b_Mo_thrown 1 = .ok (.getfield 37, 3) := by decide +kernel
theorem d_Mo_thrown_4 : decode b_Mo_thrown 4 = .ok (.ireturn, 1) := by decide +kernel
def q_Mo_thrown : List (Nat × j_S) := [(0, j_ld 2 0 1),
  (1, j_gf [11] 0 4),
  (4, j_rt 0)]
def i_Mo_thrown : j_I := (R_Mo, b_Mo_thrown, 1, false, (some .int), [])
def e_Mo_thrown : j_E := ((y_Mo_thrown, c_Mo_thrown), i_Mo_thrown, j_tab q_Mo_thrown, [])
theorem o_Mo_thrown (G : j_G) : j_mok G tm e_Mo_thrown := ⟨by decide +kernel, Or.inl ⟨rfl, rfl⟩, rfl, (fun h => by cases h), j_tab_ok (i := i_Mo_thrown) (l := q_Mo_thrown) (j_all_mem ⟨r_aload_n d_Mo_thrown_0 rfl,
  r_getfield (j_all_mem ⟨⟨_, _, _, rfl, w_Mo, by decide, ⟨_, k_1251, Or.inl rfl⟩⟩, trivial⟩) d_Mo_thrown_1,
  r_ireturn d_Mo_thrown_4 rfl, trivial⟩), (fun q h => by cases h), (fun _ => rfl)⟩
theorem d_Mo_word_0 : decode b_Mo_word 0 = .ok (.aload_n 0, 1) := by decide +kernel
theorem d_Mo_word_1 : decode b_Mo_word 1 = .ok (.iconst 0, 1) := by decide +kernel
theorem d_Mo_word_2 : decode b_Mo_word 2 = .ok (.putfield 37, 3) := by decide +kernel
theorem d_Mo_word_5 : decode b_Mo_word 5 = .ok (.aload_n 0, 1) := by decide +kernel
theorem d_Mo_word_6 : decode b_Mo_word 6 = .ok (.getfield 33, 3) := by decide +kernel
theorem d_Mo_word_9 : decode b_Mo_word 9 = .ok (.ifCond .ge 10, 3) := by decide +kernel
theorem d_Mo_word_12 : decode b_Mo_word 12 = .ok (.aload_n 0, 1) := by decide +kernel
theorem d_Mo_word_13 : decode b_Mo_word 13 = .ok (.iconst 1, 1) := by decide +kernel
theorem d_Mo_word_14 : decode b_Mo_word 14 = .ok (.invokevirtual 43, 3) := by decide +kernel
theorem d_Mo_word_17 : decode b_Mo_word 17 = .ok (.i2l, 1) := by decide +kernel
theorem d_Mo_word_18 : decode b_Mo_word 18 = .ok (.lreturn, 1) := by decide +kernel
theorem d_Mo_word_19 : decode b_Mo_word 19 = .ok (.iload_n 1, 1) := by decide +kernel
theorem d_Mo_word_20 : decode b_Mo_word 20 = .ok (.ifCond .lt 16, 3) := by decide +kernel
theorem d_Mo_word_23 : decode b_Mo_word 23 = .ok (.iload_n 1, 1) := by decide +kernel
theorem d_Mo_word_24 : decode b_Mo_word 24 = .ok (.aload_n 0, 1) := by decide +kernel
theorem d_Mo_word_25 : decode b_Mo_word 25 = .ok (.getfield 16, 3) := by decide +kernel
theorem d_Mo_word_28 : decode b_Mo_word 28 = .ok (.aload_n 0, 1) := by decide +kernel
theorem d_Mo_word_29 : decode b_Mo_word 29 = .ok (.getfield 33, 3) := by decide +kernel
theorem d_Mo_word_32 : decode b_Mo_word 32 = .ok (.iaload, 1) := by decide +kernel
theorem d_Mo_word_33 : decode b_Mo_word 33 = .ok (.if_icmp .lt 10, 3) := by decide +kernel
theorem d_Mo_word_36 : decode b_Mo_word 36 = .ok (.aload_n 0, 1) := by decide +kernel
theorem d_Mo_word_37 : decode b_Mo_word 37 = .ok (.iconst 2, 1) := by decide +kernel
theorem d_Mo_word_38 : decode b_Mo_word 38 = .ok (.invokevirtual 43, 3) := by decide +kernel
theorem d_Mo_word_41 : decode b_Mo_word 41 = .ok (.i2l, 1) := by decide +kernel
theorem d_Mo_word_42 : decode b_Mo_word 42 = .ok (.lreturn, 1) := by decide +kernel
theorem d_Mo_word_43 : decode b_Mo_word 43 = .ok (.lconst 0, 1) := by decide +kernel
theorem d_Mo_word_44 : decode b_Mo_word 44 = .ok (.lstore_n 2, 1) := by decide +kernel
theorem d_Mo_word_45 : decode b_Mo_word 45 = .ok (.iload_n 1, 1) := by decide +kernel
theorem d_Mo_word_46 : decode b_Mo_word 46 = .ok (.istore 4, 2) := by decide +kernel
theorem d_Mo_word_48 : decode b_Mo_word 48 = .ok (.iload 4, 2) := by decide +kernel
theorem d_Mo_word_50 : decode b_Mo_word 50 = .ok (.iload_n 1, 1) := by decide +kernel
theorem d_Mo_word_51 : decode b_Mo_word 51 = .ok (.bipush 8, 2) := by decide +kernel
theorem d_Mo_word_53 : decode b_Mo_word 53 = .ok (.iadd, 1) := by decide +kernel
theorem d_Mo_word_54 : decode b_Mo_word 54 = .ok (.if_icmp .ge 54, 3) := by decide +kernel
theorem d_Mo_word_57 : decode b_Mo_word 57 = .ok (.lload_n 2, 1) := by decide +kernel
theorem d_Mo_word_58 : decode b_Mo_word 58 = .ok (.ldc2_w 71, 3) := by decide +kernel
theorem d_Mo_word_61 : decode b_Mo_word 61 = .ok (.lmul, 1) := by decide +kernel
theorem d_Mo_word_62 : decode b_Mo_word 62 = .ok (.iload 4, 2) := by decide +kernel
theorem d_Mo_word_64 : decode b_Mo_word 64 = .ok (.aload_n 0, 1) := by decide +kernel
theorem d_Mo_word_65 : decode b_Mo_word 65 = .ok (.getfield 16, 3) := by decide +kernel
theorem d_Mo_word_68 : decode b_Mo_word 68 = .ok (.aload_n 0, 1) := by decide +kernel
theorem d_Mo_word_69 : decode b_Mo_word 69 = .ok (.getfield 33, 3) := by decide +kernel
theorem d_Mo_word_72 : decode b_Mo_word 72 = .ok (.iaload, 1) := by decide +kernel
theorem d_Mo_word_73 : decode b_Mo_word 73 = .ok (.if_icmp .ge 25, 3) := by decide +kernel
theorem d_Mo_word_76 : decode b_Mo_word 76 = .ok (.aload_n 0, 1) := by decide +kernel
theorem d_Mo_word_77 : decode b_Mo_word 77 = .ok (.getfield 13, 3) := by decide +kernel
theorem d_Mo_word_80 : decode b_Mo_word 80 = .ok (.bipush 40, 2) := by decide +kernel
theorem d_Mo_word_82 : decode b_Mo_word 82 = .ok (.aload_n 0, 1) := by decide +kernel
theorem d_Mo_word_83 : decode b_Mo_word 83 = .ok (.getfield 33, 3) := by decide +kernel
theorem d_Mo_word_86 : decode b_Mo_word 86 = .ok (.imul, 1) := by decide +kernel
theorem d_Mo_word_87 : decode b_Mo_word 87 = .ok (.iload 4, 2) := by decide +kernel
theorem d_Mo_word_89 : decode b_Mo_word 89 = .ok (.iadd, 1) := by decide +kernel
theorem d_Mo_word_90 : decode b_Mo_word 90 = .ok (.baload, 1) := by decide +kernel
theorem d_Mo_word_91 : decode b_Mo_word 91 = .ok (.sipush 255, 3) := by decide +kernel
theorem d_Mo_word_94 : decode b_Mo_word 94 = .ok (.iand, 1) := by decide +kernel
theorem d_Mo_word_95 : decode b_Mo_word 95 = .ok (.goto 4, 3) := by decide +kernel
theorem d_Mo_word_98 : decode b_Mo_word 98 = .ok (.iconst 0, 1) := by decide +kernel
theorem d_Mo_word_99 : decode b_Mo_word 99 = .ok (.i2l, 1) := by decide +kernel
theorem d_Mo_word_100 : decode b_Mo_word 100 = .ok (.ladd, 1) := by decide +kernel
theorem d_Mo_word_101 : decode b_Mo_word 101 = .ok (.lstore_n 2, 1) := by decide +kernel
theorem d_Mo_word_102 : decode b_Mo_word 102 = .ok (.iinc 4 1, 3) := by decide +kernel
theorem d_Mo_word_105 : decode b_Mo_word 105 = .ok (.goto (-57), 3) := by decide +kernel
theorem d_Mo_word_108 : decode b_Mo_word 108 = .ok (.lload_n 2, 1) := by decide +kernel
theorem d_Mo_word_109 : decode b_Mo_word 109 = .ok (.lreturn, 1) := by decide +kernel
def q_Mo_word : List (Nat × j_S) := [(0, j_ld 2 0 1),
  (1, j_st (f_psh (.int 0)) 2),
  (2, j_pf [11] 0 0 5),
  (5, j_ld 2 0 6),
  (6, j_gf [11] 4 9),
  (9, j_br (f_if (fun x => decide (0 ≤ x))) 19 12),
  (12, j_ld 2 0 13),
  (13, j_st (f_psh (.int 1)) 14),
  (14, j_cv [(11, 94)] 1),
  (17, j_st (f_i2l) 18),
  (18, j_rt 1),
  (19, j_ld 0 1 20),
  (20, j_br (f_if (fun x => decide (x < 0))) 36 23),
  (23, j_ld 0 1 24),
  (24, j_ld 2 0 25),
  (25, j_gf [11] 7 28),
  (28, j_ld 2 0 29),
  (29, j_gf [11] 4 32),
  (32, j_al 0 33),
  (33, j_br (f_ic (fun x y => decide (x < y))) 43 36),
  (36, j_ld 2 0 37),
  (37, j_st (f_psh (.int 2)) 38),
  (38, j_cv [(11, 94)] 1),
  (41, j_st (f_i2l) 42),
  (42, j_rt 1),
  (43, j_st (f_psh (.long 0)) 44),
  (44, j_so 1 2 45),
  (45, j_ld 0 1 46),
  (46, j_so 0 4 48),
  (48, j_ld 0 4 50),
  (50, j_ld 0 1 51),
  (51, j_st (f_psh (.int 8)) 53),
  (53, j_st (f_ii (fun a b => a + b)) 54),
  (54, j_br (f_ic (fun x y => decide (y ≤ x))) 108 57),
  (57, j_ld 1 2 58),
  (58, j_st (f_psh (.long (256))) 61),
  (61, j_st (f_ll (fun a b => a * b)) 62),
  (62, j_ld 0 4 64),
  (64, j_ld 2 0 65),
  (65, j_gf [11] 7 68),
  (68, j_ld 2 0 69),
  (69, j_gf [11] 4 72),
  (72, j_al 0 73),
  (73, j_br (f_ic (fun x y => decide (y ≤ x))) 98 76),
  (76, j_ld 2 0 77),
  (77, j_gf [11] 6 80),
  (80, j_st (f_psh (.int 40)) 82),
  (82, j_ld 2 0 83),
  (83, j_gf [11] 4 86),
  (86, j_st (f_ii (fun a b => a * b)) 87),
  (87, j_ld 0 4 89),
  (89, j_st (f_ii (fun a b => a + b)) 90),
  (90, j_alb 91),
  (91, j_st (f_psh (.int 255)) 94),
  (94, j_st (f_ii (fun a b => a &&& b)) 95),
  (95, j_st f_id 99),
  (98, j_st (f_psh (.int 0)) 99),
  (99, j_st (f_i2l) 100),
  (100, j_st (f_ll (fun a b => a + b)) 101),
  (101, j_so 1 2 102),
  (102, j_ic 4 1 105),
  (105, j_st f_id 48),
  (108, j_ld 1 2 109),
  (109, j_rt 1)]
def i_Mo_word : j_I := (R_Mo, b_Mo_word, 5, false, (some .long), [])
def e_Mo_word : j_E := ((y_Mo_word, c_Mo_word), i_Mo_word, j_tab q_Mo_word, [])
theorem o_Mo_word (G : j_G) : j_mok G tm e_Mo_word := ⟨by decide +kernel, Or.inl ⟨rfl, rfl⟩, rfl, (fun h => by cases h), j_tab_ok (i := i_Mo_word) (l := q_Mo_word) (j_all_mem ⟨r_aload_n d_Mo_word_0 rfl,
  r_iconst d_Mo_word_1 (by decide),
  r_putfield (fin := false) (j_all_mem ⟨⟨_, _, _, t_Mo, _, rfl, w_Mo, t_Mo_ok, n_Mo, by decide, rfl, t_Mo_ok 0 (by decide), Or.inl ⟨rfl, rfl⟩, ⟨_, k_1251, Or.inl rfl⟩, (fun h => by cases h)⟩, trivial⟩) (fun h => by cases h) d_Mo_word_2,
  r_aload_n d_Mo_word_5 rfl,
  r_getfield (j_all_mem ⟨⟨_, _, _, rfl, w_Mo, by decide, ⟨_, k_1262, Or.inl rfl⟩⟩, trivial⟩) d_Mo_word_6,
  r_if_ge d_Mo_word_9 (by decide),
  r_aload_n d_Mo_word_12 rfl,
  r_iconst d_Mo_word_13 (by decide),
  r_invV (j_all_mem ⟨⟨⟨_, _, _, rfl, k_1297, k_1299, kp_Mo_fail⟩, cw_Mo_fail, by decide, by decide +kernel⟩, trivial⟩) d_Mo_word_14,
  r_i2l d_Mo_word_17,
  r_lreturn d_Mo_word_18 rfl,
  r_iload_n d_Mo_word_19 rfl,
  r_if_lt d_Mo_word_20 (by decide),
  r_iload_n d_Mo_word_23 rfl,
  r_aload_n d_Mo_word_24 rfl,
  r_getfield (j_all_mem ⟨⟨_, _, _, rfl, w_Mo, by decide, ⟨_, k_1255, Or.inl rfl⟩⟩, trivial⟩) d_Mo_word_25,
  r_aload_n d_Mo_word_28 rfl,
  r_getfield (j_all_mem ⟨⟨_, _, _, rfl, w_Mo, by decide, ⟨_, k_1262, Or.inl rfl⟩⟩, trivial⟩) d_Mo_word_29,
  r_iaload d_Mo_word_32,
  r_ic_lt d_Mo_word_33 (by decide),
  r_aload_n d_Mo_word_36 rfl,
  r_iconst d_Mo_word_37 (by decide),
  r_invV (j_all_mem ⟨⟨⟨_, _, _, rfl, k_1297, k_1299, kp_Mo_fail⟩, cw_Mo_fail, by decide, by decide +kernel⟩, trivial⟩) d_Mo_word_38,
  r_i2l d_Mo_word_41,
  r_lreturn d_Mo_word_42 rfl,
  r_lconst d_Mo_word_43 (by decide),
  r_lstore_n d_Mo_word_44 rfl (by decide),
  r_iload_n d_Mo_word_45 rfl,
  r_istore d_Mo_word_46 (by decide),
  r_iload d_Mo_word_48,
  r_iload_n d_Mo_word_50 rfl,
  r_bipush d_Mo_word_51 (by decide),
  r_iadd d_Mo_word_53,
  r_ic_ge d_Mo_word_54 (by decide),
  r_lload_n d_Mo_word_57 rfl,
  r_ldc2 k_1357 d_Mo_word_58,
  r_lmul d_Mo_word_61,
  r_iload d_Mo_word_62,
  r_aload_n d_Mo_word_64 rfl,
  r_getfield (j_all_mem ⟨⟨_, _, _, rfl, w_Mo, by decide, ⟨_, k_1255, Or.inl rfl⟩⟩, trivial⟩) d_Mo_word_65,
  r_aload_n d_Mo_word_68 rfl,
  r_getfield (j_all_mem ⟨⟨_, _, _, rfl, w_Mo, by decide, ⟨_, k_1262, Or.inl rfl⟩⟩, trivial⟩) d_Mo_word_69,
  r_iaload d_Mo_word_72,
  r_ic_ge d_Mo_word_73 (by decide),
  r_aload_n d_Mo_word_76 rfl,
  r_getfield (j_all_mem ⟨⟨_, _, _, rfl, w_Mo, by decide, ⟨_, k_1254, Or.inl rfl⟩⟩, trivial⟩) d_Mo_word_77,
  r_bipush d_Mo_word_80 (by decide),
  r_aload_n d_Mo_word_82 rfl,
  r_getfield (j_all_mem ⟨⟨_, _, _, rfl, w_Mo, by decide, ⟨_, k_1262, Or.inl rfl⟩⟩, trivial⟩) d_Mo_word_83,
  r_imul d_Mo_word_86,
  r_iload d_Mo_word_87,
  r_iadd d_Mo_word_89,
  r_baload2 d_Mo_word_90,
  r_sipush d_Mo_word_91 (by decide),
  r_iand d_Mo_word_94,
  r_goto d_Mo_word_95 (by decide),
  r_iconst d_Mo_word_98 (by decide),
  r_i2l d_Mo_word_99,
  r_ladd d_Mo_word_100,
  r_lstore_n d_Mo_word_101 rfl (by decide),
  j_ok_ic d_Mo_word_102 rfl (by decide) (by decide),
  r_goto d_Mo_word_105 (by decide),
  r_lload_n d_Mo_word_108 rfl,
  r_lreturn d_Mo_word_109 rfl, trivial⟩), (fun q h => by cases h), (fun _ => rfl)⟩
