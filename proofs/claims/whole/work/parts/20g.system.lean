/-! the methods of LT: their instructions, and that each is right (written by wip/whole/gen.py) -/
theorem d_LT_addVersion_0 : decode b_LT_addVersion 0 = .ok (.aload_n 0, 1) := by decide +kernel
theorem d_LT_addVersion_1 : decode b_LT_addVersion 1 = .ok (.getfield 12, 3) := by decide +kernel
theorem d_LT_addVersion_4 : decode b_LT_addVersion 4 = .ok (.aload_n 0, 1) := by decide +kernel
theorem d_LT_addVersion_5 : decode b_LT_addVersion 5 = .ok (.getfield 52, 3) := by decide +kernel
theorem d_LT_addVersion_8 : decode b_LT_addVersion 8 = .ok (.invokevirtual 199, 3) := by decide +kernel
theorem d_LT_addVersion_11 : decode b_LT_addVersion 11 = .ok (.aload_n 0, 1) := by decide +kernel
theorem d_LT_addVersion_12 : decode b_LT_addVersion 12 = .ok (.getfield 19, 3) := by decide +kernel
theorem d_LT_addVersion_15 : decode b_LT_addVersion 15 = .ok (.invokevirtual 125, 3) := by decide +kernel
theorem d_LT_addVersion_18 : decode b_LT_addVersion 18 = .ok (.sipush 500, 3) := by decide +kernel
theorem d_LT_addVersion_21 : decode b_LT_addVersion 21 = .ok (.if_icmp .lt 11, 3) := by decide +kernel
theorem d_LT_addVersion_24 : decode b_LT_addVersion 24 = .ok (.new 119, 3) := by decide +kernel
theorem d_LT_addVersion_27 : decode b_LT_addVersion 27 = .ok (.dup, 1) := by decide +kernel
theorem d_LT_addVersion_28 : decode b_LT_addVersion 28 = .ok (.invokespecial 121, 3) := by decide +kernel
theorem d_LT_addVersion_31 : decode b_LT_addVersion 31 = .ok (.athrow, 1) := by decide +kernel
theorem d_LT_addVersion_32 : decode b_LT_addVersion 32 = .ok (.aload_n 0, 1) := by decide +kernel
theorem d_LT_addVersion_33 : decode b_LT_addVersion 33 = .ok (.aload_n 0, 1) := by decide +kernel
theorem d_LT_addVersion_34 : decode b_LT_addVersion 34 = .ok (.getfield 52, 3) := by decide +kernel
theorem d_LT_addVersion_37 : decode b_LT_addVersion 37 = .ok (.aload_n 0, 1) := by decide +kernel
theorem d_LT_addVersion_38 : decode b_LT_addVersion 38 = .ok (.getfield 19, 3) := by decide +kernel
theorem d_LT_addVersion_41 : decode b_LT_addVersion 41 = .ok (.invokevirtual 125, 3) := by decide +kernel
theorem d_LT_addVersion_44 : decode b_LT_addVersion 44 = .ok (.iconst 0, 1) := by decide +kernel
theorem d_LT_addVersion_45 : decode b_LT_addVersion 45 = .ok (.invokevirtual 134, 3) := by decide +kernel
theorem d_LT_addVersion_48 : decode b_LT_addVersion 48 = .ok (.istore 4, 2) := by decide +kernel
theorem d_LT_addVersion_50 : decode b_LT_addVersion 50 = .ok (.aload_n 0, 1) := by decide +kernel
theorem d_LT_addVersion_51 : decode b_LT_addVersion 51 = .ok (.getfield 19, 3) := by decide +kernel
theorem d_LT_addVersion_54 : decode b_LT_addVersion 54 = .ok (.invokevirtual 203, 3) := by decide +kernel
theorem d_LT_addVersion_57 : decode b_LT_addVersion 57 = .ok (.aload_n 0, 1) := by decide +kernel
theorem d_LT_addVersion_58 : decode b_LT_addVersion 58 = .ok (.getfield 52, 3) := by decide +kernel
theorem d_LT_addVersion_61 : decode b_LT_addVersion 61 = .ok (.aload_n 0, 1) := by decide +kernel
theorem d_LT_addVersion_62 : decode b_LT_addVersion 62 = .ok (.getfield 19, 3) := by decide +kernel
theorem d_LT_addVersion_65 : decode b_LT_addVersion 65 = .ok (.invokevirtual 125, 3) := by decide +kernel
theorem d_LT_addVersion_68 : decode b_LT_addVersion 68 = .ok (.iload_n 1, 1) := by decide +kernel
theorem d_LT_addVersion_69 : decode b_LT_addVersion 69 = .ok (.iload_n 2, 1) := by decide +kernel
theorem d_LT_addVersion_70 : decode b_LT_addVersion 70 = .ok (.iload_n 3, 1) := by decide +kernel
theorem d_LT_addVersion_71 : decode b_LT_addVersion 71 = .ok (.invokevirtual 206, 3) := by decide +kernel
theorem d_LT_addVersion_74 : decode b_LT_addVersion 74 = .ok (.aload_n 0, 1) := by decide +kernel
theorem d_LT_addVersion_75 : decode b_LT_addVersion 75 = .ok (.getfield 33, 3) := by decide +kernel
theorem d_LT_addVersion_78 : decode b_LT_addVersion 78 = .ok (.aload_n 0, 1) := by decide +kernel
theorem d_LT_addVersion_79 : decode b_LT_addVersion 79 = .ok (.getfield 52, 3) := by decide +kernel
theorem d_LT_addVersion_82 : decode b_LT_addVersion 82 = .ok (.invokevirtual 210, 3) := by decide +kernel
theorem d_LT_addVersion_85 : decode b_LT_addVersion 85 = .ok (.iload_n 1, 1) := by decide +kernel
theorem d_LT_addVersion_86 : decode b_LT_addVersion 86 = .ok (.iload 4, 2) := by decide +kernel
theorem d_LT_addVersion_88 : decode b_LT_addVersion 88 = .ok (.if_icmp .eq 21, 3) := by decide +kernel
theorem d_LT_addVersion_91 : decode b_LT_addVersion 91 = .ok (.aload_n 0, 1) := by decide +kernel
theorem d_LT_addVersion_92 : decode b_LT_addVersion 92 = .ok (.dup, 1) := by decide +kernel
theorem d_LT_addVersion_93 : decode b_LT_addVersion 93 = .ok (.getfield 186, 3) := by decide +kernel
theorem d_LT_addVersion_96 : decode b_LT_addVersion 96 = .ok (.iload_n 1, 1) := by decide +kernel
theorem d_LT_addVersion_97 : decode b_LT_addVersion 97 = .ok (.ifCond .eq 7, 3) := by decide +kernel
theorem d_LT_addVersion_100 : decode b_LT_addVersion 100 = .ok (.iconst 1, 1) := by decide +kernel
theorem d_LT_addVersion_101 : decode b_LT_addVersion 101 = .ok (.goto 4, 3) := by decide +kernel
theorem d_LT_addVersion_104 : decode b_LT_addVersion 104 = .ok (.iconst (-1), 1) := by decide +kernel
theorem d_LT_addVersion_105 : decode b_LT_addVersion 105 = .ok (.iadd, 1) := by decide +kernel
theorem d_LT_addVersion_106 : decode b_LT_addVersion 106 = .ok (.putfield 186, 3) := by decide +kernel
theorem d_LT_addVersion_109 : decode b_LT_addVersion 109 = .ok (.aload_n 0, 1) := by decide +kernel
theorem d_LT_addVersion_110 : decode b_LT_addVersion 110 = .ok (.getfield 19, 3) := by decide +kernel
theorem d_LT_addVersion_113 : decode b_LT_addVersion 113 = .ok (.invokevirtual 125, 3) := by decide +kernel
theorem d_LT_addVersion_116 : decode b_LT_addVersion 116 = .ok (.ireturn, 1) := by decide +kernel
def q_LT_addVersion : List (Nat × j_S) := [(0, j_ld 2 0 1),
  (1, j_gf [0] 2 4),
  (4, j_ld 2 0 5),
  (5, j_gf [0] 10 8),
  (8, j_cv [(1, 126)] 1),
  (11, j_ld 2 0 12),
  (12, j_gf [0] 3 15),
  (15, j_cv [(2, 148)] 0),
  (18, j_st (f_psh (.int 500)) 21),
  (21, j_br (f_ic (fun x y => decide (x < y))) 32 24),
  (24, j_th 1),
  (32, j_ld 2 0 33),
  (33, j_ld 2 0 34),
  (34, j_gf [0] 10 37),
  (37, j_ld 2 0 38),
  (38, j_gf [0] 3 41),
  (41, j_cv [(2, 148)] 0),
  (44, j_st (f_psh (.int 0)) 45),
  (45, j_cv [(0, 42)] 3),
  (48, j_so 0 4 50),
  (50, j_ld 2 0 51),
  (51, j_gf [0] 3 54),
  (54, j_cv [(2, 149)] 0),
  (57, j_ld 2 0 58),
  (58, j_gf [0] 10 61),
  (61, j_ld 2 0 62),
  (62, j_gf [0] 3 65),
  (65, j_cv [(2, 148)] 0),
  (68, j_ld 0 1 69),
  (69, j_ld 0 2 70),
  (70, j_ld 0 3 71),
  (71, j_cv [(8, 131)] 4),
  (74, j_ld 2 0 75),
  (75, j_gf [0] 5 78),
  (78, j_ld 2 0 79),
  (79, j_gf [0] 10 82),
  (82, j_cv [(4, 85)] 1),
  (85, j_ld 0 1 86),
  (86, j_ld 0 4 88),
  (88, j_br (f_ic (fun x y => decide (x = y))) 109 91),
  (91, j_ld 2 0 92),
  (92, j_st (f_dup) 93),
  (93, j_gf [0] 1 96),
  (96, j_ld 0 1 97),
  (97, j_br (f_if (fun x => decide (x = 0))) 104 100),
  (100, j_st (f_psh (.int 1)) 101),
  (101, j_st f_id 105),
  (104, j_st (f_psh (.int (-1))) 105),
  (105, j_st (f_ii (fun a b => a + b)) 106),
  (106, j_pf [0] 1 0 109),
  (109, j_ld 2 0 110),
  (110, j_gf [0] 3 113),
  (113, j_cv [(2, 148)] 0),
  (116, j_rt 0)]
def i_LT_addVersion : j_I := (R_LT, b_LT_addVersion, 5, false, (some .int), [])
def e_LT_addVersion : j_E := ((y_LT_addVersion, c_LT_addVersion), i_LT_addVersion, j_tab q_LT_addVersion, [])
theorem o_LT_addVersion (G : j_G) : j_mok G tm e_LT_addVersion := ⟨by decide +kernel, Or.inl ⟨rfl, rfl⟩, rfl, (fun h => by cases h), j_tab_ok (i := i_LT_addVersion) (l := q_LT_addVersion) (j_all_mem ⟨r_aload_n d_LT_addVersion_0 rfl,
  r_getfield (j_all_mem ⟨⟨_, _, _, rfl, w_LT, by decide, ⟨_, k_234, Or.inl rfl⟩⟩, trivial⟩) d_LT_addVersion_1,
  r_aload_n d_LT_addVersion_4 rfl,
  r_getfield (j_all_mem ⟨⟨_, _, _, rfl, w_LT, by decide, ⟨_, k_242, Or.inl rfl⟩⟩, trivial⟩) d_LT_addVersion_5,
  r_invV (j_all_mem ⟨⟨⟨_, _, _, rfl, k_1101, k_1102, k_1103⟩, cw_Tp_moveTo, by decide, by decide +kernel⟩, trivial⟩) d_LT_addVersion_8,
  r_aload_n d_LT_addVersion_11 rfl,
  r_getfield (j_all_mem ⟨⟨_, _, _, rfl, w_LT, by decide, ⟨_, k_235, Or.inl rfl⟩⟩, trivial⟩) d_LT_addVersion_12,
  r_invV (j_all_mem ⟨⟨⟨_, _, _, rfl, k_1032, k_1033, k_1034⟩, cw_Vi_present, by decide, by decide +kernel⟩, trivial⟩) d_LT_addVersion_15,
  r_sipush d_LT_addVersion_18 (by decide),
  r_ic_lt d_LT_addVersion_21 (by decide),
  r_throw1 k_1111 k_1120 rfl d_LT_addVersion_24 d_LT_addVersion_27 d_LT_addVersion_28 d_LT_addVersion_31,
  r_aload_n d_LT_addVersion_32 rfl,
  r_aload_n d_LT_addVersion_33 rfl,
  r_getfield (j_all_mem ⟨⟨_, _, _, rfl, w_LT, by decide, ⟨_, k_242, Or.inl rfl⟩⟩, trivial⟩) d_LT_addVersion_34,
  r_aload_n d_LT_addVersion_37 rfl,
  r_getfield (j_all_mem ⟨⟨_, _, _, rfl, w_LT, by decide, ⟨_, k_235, Or.inl rfl⟩⟩, trivial⟩) d_LT_addVersion_38,
  r_invV (j_all_mem ⟨⟨⟨_, _, _, rfl, k_1032, k_1033, k_1034⟩, cw_Vi_present, by decide, by decide +kernel⟩, trivial⟩) d_LT_addVersion_41,
  r_iconst d_LT_addVersion_44 (by decide),
  r_invV (j_all_mem ⟨⟨⟨_, _, _, rfl, k_469, k_471, kp_LT_hasSomething⟩, cw_LT_hasSomething, by decide, by decide +kernel⟩, trivial⟩) d_LT_addVersion_45,
  r_istore d_LT_addVersion_48 (by decide),
  r_aload_n d_LT_addVersion_50 rfl,
  r_getfield (j_all_mem ⟨⟨_, _, _, rfl, w_LT, by decide, ⟨_, k_235, Or.inl rfl⟩⟩, trivial⟩) d_LT_addVersion_51,
  r_invV (j_all_mem ⟨⟨⟨_, _, _, rfl, k_1126, k_1127, k_1128⟩, cw_Vi_step, by decide, by decide +kernel⟩, trivial⟩) d_LT_addVersion_54,
  r_aload_n d_LT_addVersion_57 rfl,
  r_getfield (j_all_mem ⟨⟨_, _, _, rfl, w_LT, by decide, ⟨_, k_242, Or.inl rfl⟩⟩, trivial⟩) d_LT_addVersion_58,
  r_aload_n d_LT_addVersion_61 rfl,
  r_getfield (j_all_mem ⟨⟨_, _, _, rfl, w_LT, by decide, ⟨_, k_235, Or.inl rfl⟩⟩, trivial⟩) d_LT_addVersion_62,
  r_invV (j_all_mem ⟨⟨⟨_, _, _, rfl, k_1032, k_1033, k_1034⟩, cw_Vi_present, by decide, by decide +kernel⟩, trivial⟩) d_LT_addVersion_65,
  r_iload_n d_LT_addVersion_68 rfl,
  r_iload_n d_LT_addVersion_69 rfl,
  r_iload_n d_LT_addVersion_70 rfl,
  r_invV (j_all_mem ⟨⟨⟨_, _, _, rfl, k_1130, k_315, k_316⟩, cw_Ve_describe, by decide, by decide +kernel⟩, trivial⟩) d_LT_addVersion_71,
  r_aload_n d_LT_addVersion_74 rfl,
  r_getfield (j_all_mem ⟨⟨_, _, _, rfl, w_LT, by decide, ⟨_, k_237, Or.inl rfl⟩⟩, trivial⟩) d_LT_addVersion_75,
  r_aload_n d_LT_addVersion_78 rfl,
  r_getfield (j_all_mem ⟨⟨_, _, _, rfl, w_LT, by decide, ⟨_, k_242, Or.inl rfl⟩⟩, trivial⟩) d_LT_addVersion_79,
  r_invV (j_all_mem ⟨⟨⟨_, _, _, rfl, k_1131, k_1132, k_1133⟩, cw_Me_insert, by decide, by decide +kernel⟩, trivial⟩) d_LT_addVersion_82,
  r_iload_n d_LT_addVersion_85 rfl,
  r_iload d_LT_addVersion_86,
  r_ic_eq d_LT_addVersion_88 (by decide),
  r_aload_n d_LT_addVersion_91 rfl,
  r_dup d_LT_addVersion_92,
  r_getfield (j_all_mem ⟨⟨_, _, _, rfl, w_LT, by decide, ⟨_, k_249, Or.inl rfl⟩⟩, trivial⟩) d_LT_addVersion_93,
  r_iload_n d_LT_addVersion_96 rfl,
  r_if_eq d_LT_addVersion_97 (by decide),
  r_iconst d_LT_addVersion_100 (by decide),
  r_goto d_LT_addVersion_101 (by decide),
  r_iconst d_LT_addVersion_104 (by decide),
  r_iadd d_LT_addVersion_105,
  r_putfield (fin := false) (j_all_mem ⟨⟨_, _, _, t_LT, _, rfl, w_LT, t_LT_ok, n_LT, by decide, rfl, t_LT_ok 1 (by decide), Or.inl ⟨rfl, rfl⟩, ⟨_, k_249, Or.inl rfl⟩, (fun h => by cases h)⟩, trivial⟩) (fun h => by cases h) d_LT_addVersion_106,
  r_aload_n d_LT_addVersion_109 rfl,
  r_getfield (j_all_mem ⟨⟨_, _, _, rfl, w_LT, by decide, ⟨_, k_235, Or.inl rfl⟩⟩, trivial⟩) d_LT_addVersion_110,
  r_invV (j_all_mem ⟨⟨⟨_, _, _, rfl, k_1032, k_1033, k_1034⟩, cw_Vi_present, by decide, by decide +kernel⟩, trivial⟩) d_LT_addVersion_113,
  r_ireturn d_LT_addVersion_116 rfl, trivial⟩), (fun q h => by cases h), (fun _ => rfl)⟩
theorem d_LT_check_0 : decode b_LT_check 0 = .ok (.aload_n 0, 1) := by decide +kernel
theorem d_LT_check_1 : decode b_LT_check 1 = .ok (.invokevirtual 193, 3) := by decide +kernel
theorem d_LT_check_4 : decode b_LT_check 4 = .ok (.ifCond .eq 10, 3) := by decide +kernel
theorem d_LT_check_7 : decode b_LT_check 7 = .ok (.aload_n 0, 1) := by decide +kernel
theorem d_LT_check_8 : decode b_LT_check 8 = .ok (.invokevirtual 196, 3) := by decide +kernel
theorem d_LT_check_11 : decode b_LT_check 11 = .ok (.goto 4, 3) := by decide +kernel
theorem d_LT_check_14 : decode b_LT_check 14 = .ok (.iconst (-1), 1) := by decide +kernel
theorem d_LT_check_15 : decode b_LT_check 15 = .ok (.ireturn, 1) := by decide +kernel
def q_LT_check : List (Nat × j_S) := [(0, j_ld 2 0 1),
  (1, j_cv [(0, 44)] 0),
  (4, j_br (f_if (fun x => decide (x = 0))) 14 7),
  (7, j_ld 2 0 8),
  (8, j_cv [(0, 36)] 0),
  (11, j_st f_id 15),
  (14, j_st (f_psh (.int (-1))) 15),
  (15, j_rt 0)]
def i_LT_check : j_I := (R_LT, b_LT_check, 1, false, (some .int), [])
def e_LT_check : j_E := ((y_LT_check, c_LT_check), i_LT_check, j_tab q_LT_check, [])
theorem o_LT_check (G : j_G) : j_mok G tm e_LT_check := ⟨by decide +kernel, Or.inl ⟨rfl, rfl⟩, rfl, (fun h => by cases h), j_tab_ok (i := i_LT_check) (l := q_LT_check) (j_all_mem ⟨r_aload_n d_LT_check_0 rfl,
  r_invV (j_all_mem ⟨⟨⟨_, _, _, rfl, k_990, k_992, kp_LT_isSound⟩, cw_LT_isSound, by decide, by decide +kernel⟩, trivial⟩) d_LT_check_1,
  r_if_eq d_LT_check_4 (by decide),
  r_aload_n d_LT_check_7 rfl,
  r_invV (j_all_mem ⟨⟨⟨_, _, _, rfl, k_1028, k_1030, kp_LT_countLiving⟩, cw_LT_countLiving, by decide, by decide +kernel⟩, trivial⟩) d_LT_check_8,
  r_goto d_LT_check_11 (by decide),
  r_iconst d_LT_check_14 (by decide),
  r_ireturn d_LT_check_15 rfl, trivial⟩), (fun q h => by cases h), (fun _ => rfl)⟩
theorem d_LT_close_0 : decode b_LT_close 0 = .ok (.iload_n 1, 1) := by decide +kernel
theorem d_LT_close_1 : decode b_LT_close 1 = .ok (.ifCond .lt 9, 3) := by decide +kernel
theorem d_LT_close_4 : decode b_LT_close 4 = .ok (.iload_n 1, 1) := by decide +kernel
theorem d_LT_close_5 : decode b_LT_close 5 = .ok (.bipush 8, 2) := by decide +kernel
theorem d_LT_close_7 : decode b_LT_close 7 = .ok (.if_icmp .lt 11, 3) := by decide +kernel
theorem d_LT_close_10 : decode b_LT_close 10 = .ok (.new 101, 3) := by decide +kernel
theorem d_LT_close_13 : decode b_LT_close 13 = .ok (.dup, 1) := by decide +kernel
theorem d_LT_close_14 : decode b_LT_close 14 = .ok (.invokespecial 103, 3) := by decide +kernel
theorem d_LT_close_17 : decode b_LT_close 17 = .ok (.athrow, 1) := by decide +kernel
theorem d_LT_close_18 : decode b_LT_close 18 = .ok (.aload_n 0, 1) := by decide +kernel
theorem d_LT_close_19 : decode b_LT_close 19 = .ok (.getfield 19, 3) := by decide +kernel
theorem d_LT_close_22 : decode b_LT_close 22 = .ok (.iload_n 1, 1) := by decide +kernel
theorem d_LT_close_23 : decode b_LT_close 23 = .ok (.invokevirtual 115, 3) := by decide +kernel
theorem d_LT_close_26 : decode b_LT_close 26 = .ok (.istore_n 2, 1) := by decide +kernel
theorem d_LT_close_27 : decode b_LT_close 27 = .ok (.iload_n 2, 1) := by decide +kernel
theorem d_LT_close_28 : decode b_LT_close 28 = .ok (.iconst (-1), 1) := by decide +kernel
theorem d_LT_close_29 : decode b_LT_close 29 = .ok (.if_icmp .ne 11, 3) := by decide +kernel
theorem d_LT_close_32 : decode b_LT_close 32 = .ok (.new 119, 3) := by decide +kernel
theorem d_LT_close_35 : decode b_LT_close 35 = .ok (.dup, 1) := by decide +kernel
theorem d_LT_close_36 : decode b_LT_close 36 = .ok (.invokespecial 121, 3) := by decide +kernel
theorem d_LT_close_39 : decode b_LT_close 39 = .ok (.athrow, 1) := by decide +kernel
theorem d_LT_close_40 : decode b_LT_close 40 = .ok (.aload_n 0, 1) := by decide +kernel
theorem d_LT_close_41 : decode b_LT_close 41 = .ok (.getfield 19, 3) := by decide +kernel
theorem d_LT_close_44 : decode b_LT_close 44 = .ok (.iload_n 1, 1) := by decide +kernel
theorem d_LT_close_45 : decode b_LT_close 45 = .ok (.invokevirtual 128, 3) := by decide +kernel
theorem d_LT_close_48 : decode b_LT_close 48 = .ok (.iload_n 2, 1) := by decide +kernel
theorem d_LT_close_49 : decode b_LT_close 49 = .ok (.ireturn, 1) := by decide +kernel
def q_LT_close : List (Nat × j_S) := [(0, j_ld 0 1 1),
  (1, j_br (f_if (fun x => decide (x < 0))) 10 4),
  (4, j_ld 0 1 5),
  (5, j_st (f_psh (.int 8)) 7),
  (7, j_br (f_ic (fun x y => decide (x < y))) 18 10),
  (10, j_th 0),
  (18, j_ld 2 0 19),
  (19, j_gf [0] 3 22),
  (22, j_ld 0 1 23),
  (23, j_cv [(2, 146)] 1),
  (26, j_so 0 2 27),
  (27, j_ld 0 2 28),
  (28, j_st (f_psh (.int (-1))) 29),
  (29, j_br (f_ic (fun x y => decide (¬ x = y))) 40 32),
  (32, j_th 1),
  (40, j_ld 2 0 41),
  (41, j_gf [0] 3 44),
  (44, j_ld 0 1 45),
  (45, j_cv [(2, 144)] 1),
  (48, j_ld 0 2 49),
  (49, j_rt 0)]
def i_LT_close : j_I := (R_LT, b_LT_close, 3, false, (some .int), [])
def e_LT_close : j_E := ((y_LT_close, c_LT_close), i_LT_close, j_tab q_LT_close, [])
theorem o_LT_close (G : j_G) : j_mok G tm e_LT_close := ⟨by decide +kernel, Or.inl ⟨rfl, rfl⟩, rfl, (fun h => by cases h), j_tab_ok (i := i_LT_close) (l := q_LT_close) (j_all_mem ⟨r_iload_n d_LT_close_0 rfl,
  r_if_lt d_LT_close_1 (by decide),
  r_iload_n d_LT_close_4 rfl,
  r_bipush d_LT_close_5 (by decide),
  r_ic_lt d_LT_close_7 (by decide),
  r_throw0 k_1076 k_1077 rfl d_LT_close_10 d_LT_close_13 d_LT_close_14 d_LT_close_17,
  r_aload_n d_LT_close_18 rfl,
  r_getfield (j_all_mem ⟨⟨_, _, _, rfl, w_LT, by decide, ⟨_, k_235, Or.inl rfl⟩⟩, trivial⟩) d_LT_close_19,
  r_iload_n d_LT_close_22 rfl,
  r_invV (j_all_mem ⟨⟨⟨_, _, _, rfl, k_1152, k_1153, k_1154⟩, cw_Vi_momentOf, by decide, by decide +kernel⟩, trivial⟩) d_LT_close_23,
  r_istore_n d_LT_close_26 rfl (by decide),
  r_iload_n d_LT_close_27 rfl,
  r_iconst d_LT_close_28 (by decide),
  r_ic_ne d_LT_close_29 (by decide),
  r_throw1 k_1111 k_1120 rfl d_LT_close_32 d_LT_close_35 d_LT_close_36 d_LT_close_39,
  r_aload_n d_LT_close_40 rfl,
  r_getfield (j_all_mem ⟨⟨_, _, _, rfl, w_LT, by decide, ⟨_, k_235, Or.inl rfl⟩⟩, trivial⟩) d_LT_close_41,
  r_iload_n d_LT_close_44 rfl,
  r_invV (j_all_mem ⟨⟨⟨_, _, _, rfl, k_1167, k_1168, k_1169⟩, cw_Vi_finish, by decide, by decide +kernel⟩, trivial⟩) d_LT_close_45,
  r_iload_n d_LT_close_48 rfl,
  r_ireturn d_LT_close_49 rfl, trivial⟩), (fun q h => by cases h), (fun _ => rfl)⟩
theorem d_LT_countLiving_0 : decode b_LT_countLiving 0 = .ok (.iconst 0, 1) := by decide +kernel
theorem d_LT_countLiving_1 : decode b_LT_countLiving 1 = .ok (.istore_n 1, 1) := by decide +kernel
theorem d_LT_countLiving_2 : decode b_LT_countLiving 2 = .ok (.aload_n 0, 1) := by decide +kernel
theorem d_LT_countLiving_3 : decode b_LT_countLiving 3 = .ok (.getfield 79, 3) := by decide +kernel
theorem d_LT_countLiving_6 : decode b_LT_countLiving 6 = .ok (.invokevirtual 230, 3) := by decide +kernel
theorem d_LT_countLiving_9 : decode b_LT_countLiving 9 = .ok (.iconst 0, 1) := by decide +kernel
theorem d_LT_countLiving_10 : decode b_LT_countLiving 10 = .ok (.istore_n 2, 1) := by decide +kernel
theorem d_LT_countLiving_11 : decode b_LT_countLiving 11 = .ok (.iload_n 2, 1) := by decide +kernel
theorem d_LT_countLiving_12 : decode b_LT_countLiving 12 = .ok (.iconst 5, 1) := by decide +kernel
theorem d_LT_countLiving_13 : decode b_LT_countLiving 13 = .ok (.if_icmp .ge 27, 3) := by decide +kernel
theorem d_LT_countLiving_16 : decode b_LT_countLiving 16 = .ok (.aload_n 0, 1) := by decide +kernel
theorem d_LT_countLiving_17 : decode b_LT_countLiving 17 = .ok (.getfield 79, 3) := by decide +kernel
theorem d_LT_countLiving_20 : decode b_LT_countLiving 20 = .ok (.iload_n 2, 1) := by decide +kernel
theorem d_LT_countLiving_21 : decode b_LT_countLiving 21 = .ok (.iconst 0, 1) := by decide +kernel
theorem d_LT_countLiving_22 : decode b_LT_countLiving 22 = .ok (.aload_n 0, 1) := by decide +kernel
theorem d_LT_countLiving_23 : decode b_LT_countLiving 23 = .ok (.getfield 45, 3) := by decide +kernel
theorem d_LT_countLiving_26 : decode b_LT_countLiving 26 = .ok (.iload_n 2, 1) := by decide +kernel
theorem d_LT_countLiving_27 : decode b_LT_countLiving 27 = .ok (.aaload, 1) := by decide +kernel
theorem d_LT_countLiving_28 : decode b_LT_countLiving 28 = .ok (.invokevirtual 233, 3) := by decide +kernel
theorem d_LT_countLiving_31 : decode b_LT_countLiving 31 = .ok (.invokevirtual 234, 3) := by decide +kernel
theorem d_LT_countLiving_34 : decode b_LT_countLiving 34 = .ok (.iinc 2 1, 3) := by decide +kernel
theorem d_LT_countLiving_37 : decode b_LT_countLiving 37 = .ok (.goto (-26), 3) := by decide +kernel
theorem d_LT_countLiving_40 : decode b_LT_countLiving 40 = .ok (.aload_n 0, 1) := by decide +kernel
theorem d_LT_countLiving_41 : decode b_LT_countLiving 41 = .ok (.getfield 79, 3) := by decide +kernel
theorem d_LT_countLiving_44 : decode b_LT_countLiving 44 = .ok (.invokevirtual 238, 3) := by decide +kernel
theorem d_LT_countLiving_47 : decode b_LT_countLiving 47 = .ok (.iconst 0, 1) := by decide +kernel
theorem d_LT_countLiving_48 : decode b_LT_countLiving 48 = .ok (.istore_n 2, 1) := by decide +kernel
theorem d_LT_countLiving_49 : decode b_LT_countLiving 49 = .ok (.iload_n 2, 1) := by decide +kernel
theorem d_LT_countLiving_50 : decode b_LT_countLiving 50 = .ok (.sipush 500, 3) := by decide +kernel
theorem d_LT_countLiving_53 : decode b_LT_countLiving 53 = .ok (.if_icmp .ge 39, 3) := by decide +kernel
theorem d_LT_countLiving_56 : decode b_LT_countLiving 56 = .ok (.aload_n 0, 1) := by decide +kernel
theorem d_LT_countLiving_57 : decode b_LT_countLiving 57 = .ok (.getfield 79, 3) := by decide +kernel
theorem d_LT_countLiving_60 : decode b_LT_countLiving 60 = .ok (.invokevirtual 240, 3) := by decide +kernel
theorem d_LT_countLiving_63 : decode b_LT_countLiving 63 = .ok (.ifCond .eq 29, 3) := by decide +kernel
theorem d_LT_countLiving_66 : decode b_LT_countLiving 66 = .ok (.aload_n 0, 1) := by decide +kernel
theorem d_LT_countLiving_67 : decode b_LT_countLiving 67 = .ok (.getfield 79, 3) := by decide +kernel
theorem d_LT_countLiving_70 : decode b_LT_countLiving 70 = .ok (.aload_n 0, 1) := by decide +kernel
theorem d_LT_countLiving_71 : decode b_LT_countLiving 71 = .ok (.getfield 19, 3) := by decide +kernel
theorem d_LT_countLiving_74 : decode b_LT_countLiving 74 = .ok (.invokevirtual 125, 3) := by decide +kernel
theorem d_LT_countLiving_77 : decode b_LT_countLiving 77 = .ok (.invokevirtual 243, 3) := by decide +kernel
theorem d_LT_countLiving_80 : decode b_LT_countLiving 80 = .ok (.ifCond .eq 6, 3) := by decide +kernel
theorem d_LT_countLiving_83 : decode b_LT_countLiving 83 = .ok (.iinc 1 1, 3) := by decide +kernel
theorem d_LT_countLiving_86 : decode b_LT_countLiving 86 = .ok (.iinc 2 1, 3) := by decide +kernel
theorem d_LT_countLiving_89 : decode b_LT_countLiving 89 = .ok (.goto (-40), 3) := by decide +kernel
theorem d_LT_countLiving_92 : decode b_LT_countLiving 92 = .ok (.iload_n 1, 1) := by decide +kernel
theorem d_LT_countLiving_93 : decode b_LT_countLiving 93 = .ok (.ireturn, 1) := by decide +kernel
def q_LT_countLiving : List (Nat × j_S) := [(0, j_st (f_psh (.int 0)) 1),
  (1, j_so 0 1 2),
  (2, j_ld 2 0 3),
  (3, j_gf [0] 8 6),
  (6, j_cv [(6, 152)] 0),
  (9, j_st (f_psh (.int 0)) 10),
  (10, j_so 0 2 11),
  (11, j_ld 0 2 12),
  (12, j_st (f_psh (.int 5)) 13),
  (13, j_br (f_ic (fun x y => decide (y ≤ x))) 40 16),
  (16, j_ld 2 0 17),
  (17, j_gf [0] 8 20),
  (20, j_ld 0 2 21),
  (21, j_st (f_psh (.int 0)) 22),
  (22, j_ld 2 0 23),
  (23, j_gf [0] 7 26),
  (26, j_ld 0 2 27),
  (27, j_alq 28),
  (28, j_cv [(5, 69), (4, 83)] 0),
  (31, j_cv [(6, 153)] 3),
  (34, j_ic 2 1 37),
  (37, j_st f_id 11),
  (40, j_ld 2 0 41),
  (41, j_gf [0] 8 44),
  (44, j_cv [(6, 151)] 0),
  (47, j_st (f_psh (.int 0)) 48),
  (48, j_so 0 2 49),
  (49, j_ld 0 2 50),
  (50, j_st (f_psh (.int 500)) 53),
  (53, j_br (f_ic (fun x y => decide (y ≤ x))) 92 56),
  (56, j_ld 2 0 57),
  (57, j_gf [0] 8 60),
  (60, j_cv [(6, 150)] 0),
  (63, j_br (f_if (fun x => decide (x = 0))) 92 66),
  (66, j_ld 2 0 67),
  (67, j_gf [0] 8 70),
  (70, j_ld 2 0 71),
  (71, j_gf [0] 3 74),
  (74, j_cv [(2, 148)] 0),
  (77, j_cv [(6, 155)] 1),
  (80, j_br (f_if (fun x => decide (x = 0))) 86 83),
  (83, j_ic 1 1 86),
  (86, j_ic 2 1 89),
  (89, j_st f_id 49),
  (92, j_ld 0 1 93),
  (93, j_rt 0)]
def i_LT_countLiving : j_I := (R_LT, b_LT_countLiving, 3, false, (some .int), [])
def e_LT_countLiving : j_E := ((y_LT_countLiving, c_LT_countLiving), i_LT_countLiving, j_tab q_LT_countLiving, [])
theorem o_LT_countLiving (G : j_G) : j_mok G tm e_LT_countLiving := ⟨by decide +kernel, Or.inl ⟨rfl, rfl⟩, rfl, (fun h => by cases h), j_tab_ok (i := i_LT_countLiving) (l := q_LT_countLiving) (j_all_mem ⟨r_iconst d_LT_countLiving_0 (by decide),
  r_istore_n d_LT_countLiving_1 rfl (by decide),
  r_aload_n d_LT_countLiving_2 rfl,
  r_getfield (j_all_mem ⟨⟨_, _, _, rfl, w_LT, by decide, ⟨_, k_240, Or.inl rfl⟩⟩, trivial⟩) d_LT_countLiving_3,
  r_invV (j_all_mem ⟨⟨⟨_, _, _, rfl, k_400, k_401, k_402⟩, cw_Wk_clear, by decide, by decide +kernel⟩, trivial⟩) d_LT_countLiving_6,
  r_iconst d_LT_countLiving_9 (by decide),
  r_istore_n d_LT_countLiving_10 rfl (by decide),
  r_iload_n d_LT_countLiving_11 rfl,
  r_iconst d_LT_countLiving_12 (by decide),
  r_ic_ge d_LT_countLiving_13 (by decide),
  r_aload_n d_LT_countLiving_16 rfl,
  r_getfield (j_all_mem ⟨⟨_, _, _, rfl, w_LT, by decide, ⟨_, k_240, Or.inl rfl⟩⟩, trivial⟩) d_LT_countLiving_17,
  r_iload_n d_LT_countLiving_20 rfl,
  r_iconst d_LT_countLiving_21 (by decide),
  r_aload_n d_LT_countLiving_22 rfl,
  r_getfield (j_all_mem ⟨⟨_, _, _, rfl, w_LT, by decide, ⟨_, k_239, Or.inl rfl⟩⟩, trivial⟩) d_LT_countLiving_23,
  r_iload_n d_LT_countLiving_26 rfl,
  r_aaload2 d_LT_countLiving_27,
  r_invU (y0 := ⟨"LevelTables$Run", "count", "()I"⟩) (owner := "LevelTables$Run") (j_all_mem ⟨⟨⟨_, _, _, rfl, k_462, k_330, k_331, k_332⟩, cw_Lv_count, by decide, by decide +kernel⟩, ⟨⟨_, _, _, rfl, k_462, k_330, k_334, k_288⟩, cw_Me_count, by decide, by decide +kernel⟩, trivial⟩) (fun A U h hK => va_Decl.abs (hK.nw k_329)) d_LT_countLiving_28,
  r_invV (j_all_mem ⟨⟨⟨_, _, _, rfl, k_405, k_406, k_407⟩, cw_Wk_cover, by decide, by decide +kernel⟩, trivial⟩) d_LT_countLiving_31,
  j_ok_ic d_LT_countLiving_34 rfl (by decide) (by decide),
  r_goto d_LT_countLiving_37 (by decide),
  r_aload_n d_LT_countLiving_40 rfl,
  r_getfield (j_all_mem ⟨⟨_, _, _, rfl, w_LT, by decide, ⟨_, k_240, Or.inl rfl⟩⟩, trivial⟩) d_LT_countLiving_41,
  r_invV (j_all_mem ⟨⟨⟨_, _, _, rfl, k_426, k_427, k_428⟩, cw_Wk_begin, by decide, by decide +kernel⟩, trivial⟩) d_LT_countLiving_44,
  r_iconst d_LT_countLiving_47 (by decide),
  r_istore_n d_LT_countLiving_48 rfl (by decide),
  r_iload_n d_LT_countLiving_49 rfl,
  r_sipush d_LT_countLiving_50 (by decide),
  r_ic_ge d_LT_countLiving_53 (by decide),
  r_aload_n d_LT_countLiving_56 rfl,
  r_getfield (j_all_mem ⟨⟨_, _, _, rfl, w_LT, by decide, ⟨_, k_240, Or.inl rfl⟩⟩, trivial⟩) d_LT_countLiving_57,
  r_invV (j_all_mem ⟨⟨⟨_, _, _, rfl, k_440, k_441, k_442⟩, cw_Wk_advance, by decide, by decide +kernel⟩, trivial⟩) d_LT_countLiving_60,
  r_if_eq d_LT_countLiving_63 (by decide),
  r_aload_n d_LT_countLiving_66 rfl,
  r_getfield (j_all_mem ⟨⟨_, _, _, rfl, w_LT, by decide, ⟨_, k_240, Or.inl rfl⟩⟩, trivial⟩) d_LT_countLiving_67,
  r_aload_n d_LT_countLiving_70 rfl,
  r_getfield (j_all_mem ⟨⟨_, _, _, rfl, w_LT, by decide, ⟨_, k_235, Or.inl rfl⟩⟩, trivial⟩) d_LT_countLiving_71,
  r_invV (j_all_mem ⟨⟨⟨_, _, _, rfl, k_1032, k_1033, k_1034⟩, cw_Vi_present, by decide, by decide +kernel⟩, trivial⟩) d_LT_countLiving_74,
  r_invV (j_all_mem ⟨⟨⟨_, _, _, rfl, k_1036, k_1037, k_1038⟩, cw_Wk_isSomethingAt, by decide, by decide +kernel⟩, trivial⟩) d_LT_countLiving_77,
  r_if_eq d_LT_countLiving_80 (by decide),
  j_ok_ic d_LT_countLiving_83 rfl (by decide) (by decide),
  j_ok_ic d_LT_countLiving_86 rfl (by decide) (by decide),
  r_goto d_LT_countLiving_89 (by decide),
  r_iload_n d_LT_countLiving_92 rfl,
  r_ireturn d_LT_countLiving_93 rfl, trivial⟩), (fun q h => by cases h), (fun _ => rfl)⟩
theorem d_LT_current_0 : decode b_LT_current 0 = .ok (.iload_n 1, 1) := by decide +kernel
theorem d_LT_current_1 : decode b_LT_current 1 = .ok (.ifCond .lt 8, 3) := by decide +kernel
theorem d_LT_current_4 : decode b_LT_current 4 = .ok (.iload_n 1, 1) := by decide +kernel
theorem d_LT_current_5 : decode b_LT_current 5 = .ok (.iconst 3, 1) := by decide +kernel
theorem d_LT_current_6 : decode b_LT_current 6 = .ok (.if_icmp .le 11, 3) := by decide +kernel
theorem d_LT_current_9 : decode b_LT_current 9 = .ok (.new 101, 3) := by decide +kernel
theorem d_LT_current_12 : decode b_LT_current 12 = .ok (.dup, 1) := by decide +kernel
theorem d_LT_current_13 : decode b_LT_current 13 = .ok (.invokespecial 103, 3) := by decide +kernel
theorem d_LT_current_16 : decode b_LT_current 16 = .ok (.athrow, 1) := by decide +kernel
theorem d_LT_current_17 : decode b_LT_current 17 = .ok (.aload_n 0, 1) := by decide +kernel
theorem d_LT_current_18 : decode b_LT_current 18 = .ok (.getfield 149, 3) := by decide +kernel
theorem d_LT_current_21 : decode b_LT_current 21 = .ok (.ifCond .ne 11, 3) := by decide +kernel
theorem d_LT_current_24 : decode b_LT_current 24 = .ok (.new 153, 3) := by decide +kernel
theorem d_LT_current_27 : decode b_LT_current 27 = .ok (.dup, 1) := by decide +kernel
theorem d_LT_current_28 : decode b_LT_current 28 = .ok (.invokespecial 155, 3) := by decide +kernel
theorem d_LT_current_31 : decode b_LT_current 31 = .ok (.athrow, 1) := by decide +kernel
theorem d_LT_current_32 : decode b_LT_current 32 = .ok (.iload_n 1, 1) := by decide +kernel
theorem d_LT_current_33 : decode b_LT_current 33 = .ok (.tableswitch 51 0 2 #[27, 35, 43], 27) := by decide +kernel
theorem d_LT_current_60 : decode b_LT_current 60 = .ok (.aload_n 0, 1) := by decide +kernel
theorem d_LT_current_61 : decode b_LT_current 61 = .ok (.getfield 68, 3) := by decide +kernel
theorem d_LT_current_64 : decode b_LT_current 64 = .ok (.invokevirtual 156, 3) := by decide +kernel
theorem d_LT_current_67 : decode b_LT_current 67 = .ok (.ireturn, 1) := by decide +kernel
theorem d_LT_current_68 : decode b_LT_current 68 = .ok (.aload_n 0, 1) := by decide +kernel
theorem d_LT_current_69 : decode b_LT_current 69 = .ok (.getfield 68, 3) := by decide +kernel
theorem d_LT_current_72 : decode b_LT_current 72 = .ok (.invokevirtual 159, 3) := by decide +kernel
theorem d_LT_current_75 : decode b_LT_current 75 = .ok (.ireturn, 1) := by decide +kernel
theorem d_LT_current_76 : decode b_LT_current 76 = .ok (.aload_n 0, 1) := by decide +kernel
theorem d_LT_current_77 : decode b_LT_current 77 = .ok (.getfield 68, 3) := by decide +kernel
theorem d_LT_current_80 : decode b_LT_current 80 = .ok (.invokevirtual 162, 3) := by decide +kernel
theorem d_LT_current_83 : decode b_LT_current 83 = .ok (.ireturn, 1) := by decide +kernel
theorem d_LT_current_84 : decode b_LT_current 84 = .ok (.aload_n 0, 1) := by decide +kernel
theorem d_LT_current_85 : decode b_LT_current 85 = .ok (.getfield 68, 3) := by decide +kernel
theorem d_LT_current_88 : decode b_LT_current 88 = .ok (.invokevirtual 165, 3) := by decide +kernel
theorem d_LT_current_91 : decode b_LT_current 91 = .ok (.ireturn, 1) := by decide +kernel
def q_LT_current : List (Nat × j_S) := [(0, j_ld 0 1 1),
  (1, j_br (f_if (fun x => decide (x < 0))) 9 4),
  (4, j_ld 0 1 5),
  (5, j_st (f_psh (.int 3)) 6),
  (6, j_br (f_ic (fun x y => decide (x ≤ y))) 17 9),
  (9, j_th 0),
  (17, j_ld 2 0 18),
  (18, j_gf [0] 0 21),
  (21, j_br (f_if (fun x => decide (¬ x = 0))) 32 24),
  (24, j_th 3),
  (32, j_ld 0 1 33),
  (33, j_jp (f_sw 0 [60, 68, 76] 84)),
  (60, j_ld 2 0 61),
  (61, j_gf [0] 15 64),
  (64, j_cv [(8, 138)] 0),
  (67, j_rt 0),
  (68, j_ld 2 0 69),
  (69, j_gf [0] 15 72),
  (72, j_cv [(8, 141)] 0),
  (75, j_rt 0),
  (76, j_ld 2 0 77),
  (77, j_gf [0] 15 80),
  (80, j_cv [(8, 137)] 0),
  (83, j_rt 0),
  (84, j_ld 2 0 85),
  (85, j_gf [0] 15 88),
  (88, j_cv [(8, 136)] 0),
  (91, j_rt 0)]
def i_LT_current : j_I := (R_LT, b_LT_current, 2, false, (some .int), [])
def e_LT_current : j_E := ((y_LT_current, c_LT_current), i_LT_current, j_tab q_LT_current, [])
theorem o_LT_current (G : j_G) : j_mok G tm e_LT_current := ⟨by decide +kernel, Or.inl ⟨rfl, rfl⟩, rfl, (fun h => by cases h), j_tab_ok (i := i_LT_current) (l := q_LT_current) (j_all_mem ⟨r_iload_n d_LT_current_0 rfl,
  r_if_lt d_LT_current_1 (by decide),
  r_iload_n d_LT_current_4 rfl,
  r_iconst d_LT_current_5 (by decide),
  r_ic_le d_LT_current_6 (by decide),
  r_throw0 k_1076 k_1077 rfl d_LT_current_9 d_LT_current_12 d_LT_current_13 d_LT_current_16,
  r_aload_n d_LT_current_17 rfl,
  r_getfield (j_all_mem ⟨⟨_, _, _, rfl, w_LT, by decide, ⟨_, k_248, Or.inl rfl⟩⟩, trivial⟩) d_LT_current_18,
  r_if_ne d_LT_current_21 (by decide),
  r_throw3 k_1187 k_1196 rfl d_LT_current_24 d_LT_current_27 d_LT_current_28 d_LT_current_31,
  r_iload_n d_LT_current_32 rfl,
  r_tableswitch d_LT_current_33 (by decide) (by decide) (by decide),
  r_aload_n d_LT_current_60 rfl,
  r_getfield (j_all_mem ⟨⟨_, _, _, rfl, w_LT, by decide, ⟨_, k_247, Or.inl rfl⟩⟩, trivial⟩) d_LT_current_61,
  r_invV (j_all_mem ⟨⟨⟨_, _, _, rfl, k_1202, k_1203, k_1204⟩, cw_Ve_place, by decide, by decide +kernel⟩, trivial⟩) d_LT_current_64,
  r_ireturn d_LT_current_67 rfl,
  r_aload_n d_LT_current_68 rfl,
  r_getfield (j_all_mem ⟨⟨_, _, _, rfl, w_LT, by decide, ⟨_, k_247, Or.inl rfl⟩⟩, trivial⟩) d_LT_current_69,
  r_invV (j_all_mem ⟨⟨⟨_, _, _, rfl, k_1225, k_1226, k_1227⟩, cw_Ve_size, by decide, by decide +kernel⟩, trivial⟩) d_LT_current_72,
  r_ireturn d_LT_current_75 rfl,
  r_aload_n d_LT_current_76 rfl,
  r_getfield (j_all_mem ⟨⟨_, _, _, rfl, w_LT, by decide, ⟨_, k_247, Or.inl rfl⟩⟩, trivial⟩) d_LT_current_77,
  r_invV (j_all_mem ⟨⟨⟨_, _, _, rfl, k_459, k_393, k_394⟩, cw_Ve_moment, by decide, by decide +kernel⟩, trivial⟩) d_LT_current_80,
  r_ireturn d_LT_current_83 rfl,
  r_aload_n d_LT_current_84 rfl,
  r_getfield (j_all_mem ⟨⟨_, _, _, rfl, w_LT, by decide, ⟨_, k_247, Or.inl rfl⟩⟩, trivial⟩) d_LT_current_85,
  r_invV (j_all_mem ⟨⟨⟨_, _, _, rfl, k_1229, k_319, k_320⟩, cw_Ve_length, by decide, by decide +kernel⟩, trivial⟩) d_LT_current_88,
  r_ireturn d_LT_current_91 rfl, trivial⟩), (fun q h => by cases h), (fun _ => rfl)⟩
theorem d_LT_end_0 : decode b_LT_end 0 = .ok (.iload_n 1, 1) := by decide +kernel
theorem d_LT_end_1 : decode b_LT_end 1 = .ok (.ifCond .lt 14, 3) := by decide +kernel
theorem d_LT_end_4 : decode b_LT_end 4 = .ok (.iload_n 1, 1) := by decide +kernel
theorem d_LT_end_5 : decode b_LT_end 5 = .ok (.aload_n 0, 1) := by decide +kernel
theorem d_LT_end_6 : decode b_LT_end 6 = .ok (.getfield 12, 3) := by decide +kernel
theorem d_LT_end_9 : decode b_LT_end 9 = .ok (.invokevirtual 90, 3) := by decide +kernel
theorem d_LT_end_12 : decode b_LT_end 12 = .ok (.if_icmp .le 11, 3) := by decide +kernel
theorem d_LT_end_15 : decode b_LT_end 15 = .ok (.new 101, 3) := by decide +kernel
theorem d_LT_end_18 : decode b_LT_end 18 = .ok (.dup, 1) := by decide +kernel
theorem d_LT_end_19 : decode b_LT_end 19 = .ok (.invokespecial 103, 3) := by decide +kernel
theorem d_LT_end_22 : decode b_LT_end 22 = .ok (.athrow, 1) := by decide +kernel
theorem d_LT_end_23 : decode b_LT_end 23 = .ok (.aload_n 0, 1) := by decide +kernel
theorem d_LT_end_24 : decode b_LT_end 24 = .ok (.getfield 12, 3) := by decide +kernel
theorem d_LT_end_27 : decode b_LT_end 27 = .ok (.iload_n 1, 1) := by decide +kernel
theorem d_LT_end_28 : decode b_LT_end 28 = .ok (.invokevirtual 104, 3) := by decide +kernel
theorem d_LT_end_31 : decode b_LT_end 31 = .ok (.iload_n 1, 1) := by decide +kernel
theorem d_LT_end_32 : decode b_LT_end 32 = .ok (.ireturn, 1) := by decide +kernel
def q_LT_end : List (Nat × j_S) := [(0, j_ld 0 1 1),
  (1, j_br (f_if (fun x => decide (x < 0))) 15 4),
  (4, j_ld 0 1 5),
  (5, j_ld 2 0 6),
  (6, j_gf [0] 2 9),
  (9, j_cv [(1, 125)] 0),
  (12, j_br (f_ic (fun x y => decide (x ≤ y))) 23 15),
  (15, j_th 0),
  (23, j_ld 2 0 24),
  (24, j_gf [0] 2 27),
  (27, j_ld 0 1 28),
  (28, j_cv [(1, 122)] 1),
  (31, j_ld 0 1 32),
  (32, j_rt 0)]
def i_LT_end : j_I := (R_LT, b_LT_end, 2, false, (some .int), [])
def e_LT_end : j_E := ((y_LT_end, c_LT_end), i_LT_end, j_tab q_LT_end, [])
theorem o_LT_end (G : j_G) : j_mok G tm e_LT_end := ⟨by decide +kernel, Or.inl ⟨rfl, rfl⟩, rfl, (fun h => by cases h), j_tab_ok (i := i_LT_end) (l := q_LT_end) (j_all_mem ⟨r_iload_n d_LT_end_0 rfl,
  r_if_lt d_LT_end_1 (by decide),
  r_iload_n d_LT_end_4 rfl,
  r_aload_n d_LT_end_5 rfl,
  r_getfield (j_all_mem ⟨⟨_, _, _, rfl, w_LT, by decide, ⟨_, k_234, Or.inl rfl⟩⟩, trivial⟩) d_LT_end_6,
  r_invV (j_all_mem ⟨⟨⟨_, _, _, rfl, k_1049, k_1050, k_1051⟩, cw_Tp_length, by decide, by decide +kernel⟩, trivial⟩) d_LT_end_9,
  r_ic_le d_LT_end_12 (by decide),
  r_throw0 k_1076 k_1077 rfl d_LT_end_15 d_LT_end_18 d_LT_end_19 d_LT_end_22,
  r_aload_n d_LT_end_23 rfl,
  r_getfield (j_all_mem ⟨⟨_, _, _, rfl, w_LT, by decide, ⟨_, k_234, Or.inl rfl⟩⟩, trivial⟩) d_LT_end_24,
  r_iload_n d_LT_end_27 rfl,
  r_invV (j_all_mem ⟨⟨⟨_, _, _, rfl, k_1081, k_1082, k_1083⟩, cw_Tp_cut, by decide, by decide +kernel⟩, trivial⟩) d_LT_end_28,
  r_iload_n d_LT_end_31 rfl,
  r_ireturn d_LT_end_32 rfl, trivial⟩), (fun q h => by cases h), (fun _ => rfl)⟩
theorem d_LT_feed_0 : decode b_LT_feed 0 = .ok (.aload_n 0, 1) := by decide +kernel
theorem d_LT_feed_1 : decode b_LT_feed 1 = .ok (.getfield 12, 3) := by decide +kernel
theorem d_LT_feed_4 : decode b_LT_feed 4 = .ok (.invokevirtual 90, 3) := by decide +kernel
theorem d_LT_feed_7 : decode b_LT_feed 7 = .ok (.bipush 20, 2) := by decide +kernel
theorem d_LT_feed_9 : decode b_LT_feed 9 = .ok (.iadd, 1) := by decide +kernel
theorem d_LT_feed_10 : decode b_LT_feed 10 = .ok (.bipush 60, 2) := by decide +kernel
theorem d_LT_feed_12 : decode b_LT_feed 12 = .ok (.if_icmp .le 11, 3) := by decide +kernel
theorem d_LT_feed_15 : decode b_LT_feed 15 = .ok (.new 94, 3) := by decide +kernel
theorem d_LT_feed_18 : decode b_LT_feed 18 = .ok (.dup, 1) := by decide +kernel
theorem d_LT_feed_19 : decode b_LT_feed 19 = .ok (.invokespecial 96, 3) := by decide +kernel
theorem d_LT_feed_22 : decode b_LT_feed 22 = .ok (.athrow, 1) := by decide +kernel
theorem d_LT_feed_23 : decode b_LT_feed 23 = .ok (.aload_n 0, 1) := by decide +kernel
theorem d_LT_feed_24 : decode b_LT_feed 24 = .ok (.getfield 12, 3) := by decide +kernel
theorem d_LT_feed_27 : decode b_LT_feed 27 = .ok (.iload_n 1, 1) := by decide +kernel
theorem d_LT_feed_28 : decode b_LT_feed 28 = .ok (.invokevirtual 97, 3) := by decide +kernel
theorem d_LT_feed_31 : decode b_LT_feed 31 = .ok (.aload_n 0, 1) := by decide +kernel
theorem d_LT_feed_32 : decode b_LT_feed 32 = .ok (.getfield 12, 3) := by decide +kernel
theorem d_LT_feed_35 : decode b_LT_feed 35 = .ok (.iload_n 2, 1) := by decide +kernel
theorem d_LT_feed_36 : decode b_LT_feed 36 = .ok (.invokevirtual 97, 3) := by decide +kernel
theorem d_LT_feed_39 : decode b_LT_feed 39 = .ok (.aload_n 0, 1) := by decide +kernel
theorem d_LT_feed_40 : decode b_LT_feed 40 = .ok (.getfield 12, 3) := by decide +kernel
theorem d_LT_feed_43 : decode b_LT_feed 43 = .ok (.iload_n 3, 1) := by decide +kernel
theorem d_LT_feed_44 : decode b_LT_feed 44 = .ok (.invokevirtual 97, 3) := by decide +kernel
theorem d_LT_feed_47 : decode b_LT_feed 47 = .ok (.aload_n 0, 1) := by decide +kernel
theorem d_LT_feed_48 : decode b_LT_feed 48 = .ok (.getfield 12, 3) := by decide +kernel
theorem d_LT_feed_51 : decode b_LT_feed 51 = .ok (.iload 4, 2) := by decide +kernel
theorem d_LT_feed_53 : decode b_LT_feed 53 = .ok (.invokevirtual 97, 3) := by decide +kernel
theorem d_LT_feed_56 : decode b_LT_feed 56 = .ok (.aload_n 0, 1) := by decide +kernel
theorem d_LT_feed_57 : decode b_LT_feed 57 = .ok (.getfield 12, 3) := by decide +kernel
theorem d_LT_feed_60 : decode b_LT_feed 60 = .ok (.iload 5, 2) := by decide +kernel
theorem d_LT_feed_62 : decode b_LT_feed 62 = .ok (.invokevirtual 97, 3) := by decide +kernel
theorem d_LT_feed_65 : decode b_LT_feed 65 = .ok (.aload_n 0, 1) := by decide +kernel
theorem d_LT_feed_66 : decode b_LT_feed 66 = .ok (.getfield 12, 3) := by decide +kernel
theorem d_LT_feed_69 : decode b_LT_feed 69 = .ok (.invokevirtual 90, 3) := by decide +kernel
theorem d_LT_feed_72 : decode b_LT_feed 72 = .ok (.ireturn, 1) := by decide +kernel
def q_LT_feed : List (Nat × j_S) := [(0, j_ld 2 0 1),
  (1, j_gf [0] 2 4),
  (4, j_cv [(1, 125)] 0),
  (7, j_st (f_psh (.int 20)) 9),
  (9, j_st (f_ii (fun a b => a + b)) 10),
  (10, j_st (f_psh (.int 60)) 12),
  (12, j_br (f_ic (fun x y => decide (x ≤ y))) 23 15),
  (15, j_th 2),
  (23, j_ld 2 0 24),
  (24, j_gf [0] 2 27),
  (27, j_ld 0 1 28),
  (28, j_cv [(1, 121)] 1),
  (31, j_ld 2 0 32),
  (32, j_gf [0] 2 35),
  (35, j_ld 0 2 36),
  (36, j_cv [(1, 121)] 1),
  (39, j_ld 2 0 40),
  (40, j_gf [0] 2 43),
  (43, j_ld 0 3 44),
  (44, j_cv [(1, 121)] 1),
  (47, j_ld 2 0 48),
  (48, j_gf [0] 2 51),
  (51, j_ld 0 4 53),
  (53, j_cv [(1, 121)] 1),
  (56, j_ld 2 0 57),
  (57, j_gf [0] 2 60),
  (60, j_ld 0 5 62),
  (62, j_cv [(1, 121)] 1),
  (65, j_ld 2 0 66),
  (66, j_gf [0] 2 69),
  (69, j_cv [(1, 125)] 0),
  (72, j_rt 0)]
def i_LT_feed : j_I := (R_LT, b_LT_feed, 6, false, (some .int), [])
def e_LT_feed : j_E := ((y_LT_feed, c_LT_feed), i_LT_feed, j_tab q_LT_feed, [])
theorem o_LT_feed (G : j_G) : j_mok G tm e_LT_feed := ⟨by decide +kernel, Or.inl ⟨rfl, rfl⟩, rfl, (fun h => by cases h), j_tab_ok (i := i_LT_feed) (l := q_LT_feed) (j_all_mem ⟨r_aload_n d_LT_feed_0 rfl,
  r_getfield (j_all_mem ⟨⟨_, _, _, rfl, w_LT, by decide, ⟨_, k_234, Or.inl rfl⟩⟩, trivial⟩) d_LT_feed_1,
  r_invV (j_all_mem ⟨⟨⟨_, _, _, rfl, k_1049, k_1050, k_1051⟩, cw_Tp_length, by decide, by decide +kernel⟩, trivial⟩) d_LT_feed_4,
  r_bipush d_LT_feed_7 (by decide),
  r_iadd d_LT_feed_9,
  r_bipush d_LT_feed_10 (by decide),
  r_ic_le d_LT_feed_12 (by decide),
  r_throw2 k_1053 k_1054 rfl d_LT_feed_15 d_LT_feed_18 d_LT_feed_19 d_LT_feed_22,
  r_aload_n d_LT_feed_23 rfl,
  r_getfield (j_all_mem ⟨⟨_, _, _, rfl, w_LT, by decide, ⟨_, k_234, Or.inl rfl⟩⟩, trivial⟩) d_LT_feed_24,
  r_iload_n d_LT_feed_27 rfl,
  r_invV (j_all_mem ⟨⟨⟨_, _, _, rfl, k_1064, k_1065, k_1066⟩, cw_Tp_append, by decide, by decide +kernel⟩, trivial⟩) d_LT_feed_28,
  r_aload_n d_LT_feed_31 rfl,
  r_getfield (j_all_mem ⟨⟨_, _, _, rfl, w_LT, by decide, ⟨_, k_234, Or.inl rfl⟩⟩, trivial⟩) d_LT_feed_32,
  r_iload_n d_LT_feed_35 rfl,
  r_invV (j_all_mem ⟨⟨⟨_, _, _, rfl, k_1064, k_1065, k_1066⟩, cw_Tp_append, by decide, by decide +kernel⟩, trivial⟩) d_LT_feed_36,
  r_aload_n d_LT_feed_39 rfl,
  r_getfield (j_all_mem ⟨⟨_, _, _, rfl, w_LT, by decide, ⟨_, k_234, Or.inl rfl⟩⟩, trivial⟩) d_LT_feed_40,
  r_iload_n d_LT_feed_43 rfl,
  r_invV (j_all_mem ⟨⟨⟨_, _, _, rfl, k_1064, k_1065, k_1066⟩, cw_Tp_append, by decide, by decide +kernel⟩, trivial⟩) d_LT_feed_44,
  r_aload_n d_LT_feed_47 rfl,
  r_getfield (j_all_mem ⟨⟨_, _, _, rfl, w_LT, by decide, ⟨_, k_234, Or.inl rfl⟩⟩, trivial⟩) d_LT_feed_48,
  r_iload d_LT_feed_51,
  r_invV (j_all_mem ⟨⟨⟨_, _, _, rfl, k_1064, k_1065, k_1066⟩, cw_Tp_append, by decide, by decide +kernel⟩, trivial⟩) d_LT_feed_53,
  r_aload_n d_LT_feed_56 rfl,
  r_getfield (j_all_mem ⟨⟨_, _, _, rfl, w_LT, by decide, ⟨_, k_234, Or.inl rfl⟩⟩, trivial⟩) d_LT_feed_57,
  r_iload d_LT_feed_60,
  r_invV (j_all_mem ⟨⟨⟨_, _, _, rfl, k_1064, k_1065, k_1066⟩, cw_Tp_append, by decide, by decide +kernel⟩, trivial⟩) d_LT_feed_62,
  r_aload_n d_LT_feed_65 rfl,
  r_getfield (j_all_mem ⟨⟨_, _, _, rfl, w_LT, by decide, ⟨_, k_234, Or.inl rfl⟩⟩, trivial⟩) d_LT_feed_66,
  r_invV (j_all_mem ⟨⟨⟨_, _, _, rfl, k_1049, k_1050, k_1051⟩, cw_Tp_length, by decide, by decide +kernel⟩, trivial⟩) d_LT_feed_69,
  r_ireturn d_LT_feed_72 rfl, trivial⟩), (fun q h => by cases h), (fun _ => rfl)⟩
theorem d_LT_find_0 : decode b_LT_find 0 = .ok (.iload_n 1, 1) := by decide +kernel
theorem d_LT_find_1 : decode b_LT_find 1 = .ok (.iconst (-1), 1) := by decide +kernel
theorem d_LT_find_2 : decode b_LT_find 2 = .ok (.if_icmp .lt 19, 3) := by decide +kernel
theorem d_LT_find_5 : decode b_LT_find 5 = .ok (.iload_n 1, 1) := by decide +kernel
theorem d_LT_find_6 : decode b_LT_find 6 = .ok (.bipush 8, 2) := by decide +kernel
theorem d_LT_find_8 : decode b_LT_find 8 = .ok (.if_icmp .ge 13, 3) := by decide +kernel
theorem d_LT_find_11 : decode b_LT_find 11 = .ok (.aload_n 0, 1) := by decide +kernel
theorem d_LT_find_12 : decode b_LT_find 12 = .ok (.getfield 12, 3) := by decide +kernel
theorem d_LT_find_15 : decode b_LT_find 15 = .ok (.invokevirtual 107, 3) := by decide +kernel
theorem d_LT_find_18 : decode b_LT_find 18 = .ok (.ifCond .ne 11, 3) := by decide +kernel
theorem d_LT_find_21 : decode b_LT_find 21 = .ok (.new 101, 3) := by decide +kernel
theorem d_LT_find_24 : decode b_LT_find 24 = .ok (.dup, 1) := by decide +kernel
theorem d_LT_find_25 : decode b_LT_find 25 = .ok (.invokespecial 103, 3) := by decide +kernel
theorem d_LT_find_28 : decode b_LT_find 28 = .ok (.athrow, 1) := by decide +kernel
theorem d_LT_find_29 : decode b_LT_find 29 = .ok (.aload_n 0, 1) := by decide +kernel
theorem d_LT_find_30 : decode b_LT_find 30 = .ok (.iload_n 1, 1) := by decide +kernel
theorem d_LT_find_31 : decode b_LT_find 31 = .ok (.invokevirtual 131, 3) := by decide +kernel
theorem d_LT_find_34 : decode b_LT_find 34 = .ok (.istore_n 2, 1) := by decide +kernel
theorem d_LT_find_35 : decode b_LT_find 35 = .ok (.aload_n 0, 1) := by decide +kernel
theorem d_LT_find_36 : decode b_LT_find 36 = .ok (.aload_n 0, 1) := by decide +kernel
theorem d_LT_find_37 : decode b_LT_find 37 = .ok (.aload_n 0, 1) := by decide +kernel
theorem d_LT_find_38 : decode b_LT_find 38 = .ok (.getfield 52, 3) := by decide +kernel
theorem d_LT_find_41 : decode b_LT_find 41 = .ok (.iload_n 2, 1) := by decide +kernel
theorem d_LT_find_42 : decode b_LT_find 42 = .ok (.iconst 0, 1) := by decide +kernel
theorem d_LT_find_43 : decode b_LT_find 43 = .ok (.invokevirtual 134, 3) := by decide +kernel
theorem d_LT_find_46 : decode b_LT_find 46 = .ok (.invokevirtual 138, 3) := by decide +kernel
theorem d_LT_find_49 : decode b_LT_find 49 = .ok (.ireturn, 1) := by decide +kernel
def q_LT_find : List (Nat × j_S) := [(0, j_ld 0 1 1),
  (1, j_st (f_psh (.int (-1))) 2),
  (2, j_br (f_ic (fun x y => decide (x < y))) 21 5),
  (5, j_ld 0 1 6),
  (6, j_st (f_psh (.int 8)) 8),
  (8, j_br (f_ic (fun x y => decide (y ≤ x))) 21 11),
  (11, j_ld 2 0 12),
  (12, j_gf [0] 2 15),
  (15, j_cv [(1, 123)] 0),
  (18, j_br (f_if (fun x => decide (¬ x = 0))) 29 21),
  (21, j_th 0),
  (29, j_ld 2 0 30),
  (30, j_ld 0 1 31),
  (31, j_cv [(0, 53)] 1),
  (34, j_so 0 2 35),
  (35, j_ld 2 0 36),
  (36, j_ld 2 0 37),
  (37, j_ld 2 0 38),
  (38, j_gf [0] 10 41),
  (41, j_ld 0 2 42),
  (42, j_st (f_psh (.int 0)) 43),
  (43, j_cv [(0, 42)] 3),
  (46, j_cv [(0, 55)] 1),
  (49, j_rt 0)]
def i_LT_find : j_I := (R_LT, b_LT_find, 3, false, (some .int), [])
def e_LT_find : j_E := ((y_LT_find, c_LT_find), i_LT_find, j_tab q_LT_find, [])
theorem o_LT_find (G : j_G) : j_mok G tm e_LT_find := ⟨by decide +kernel, Or.inl ⟨rfl, rfl⟩, rfl, (fun h => by cases h), j_tab_ok (i := i_LT_find) (l := q_LT_find) (j_all_mem ⟨r_iload_n d_LT_find_0 rfl,
  r_iconst d_LT_find_1 (by decide),
  r_ic_lt d_LT_find_2 (by decide),
  r_iload_n d_LT_find_5 rfl,
  r_bipush d_LT_find_6 (by decide),
  r_ic_ge d_LT_find_8 (by decide),
  r_aload_n d_LT_find_11 rfl,
  r_getfield (j_all_mem ⟨⟨_, _, _, rfl, w_LT, by decide, ⟨_, k_234, Or.inl rfl⟩⟩, trivial⟩) d_LT_find_12,
  r_invV (j_all_mem ⟨⟨⟨_, _, _, rfl, k_1093, k_1094, k_1095⟩, cw_Tp_hasKey, by decide, by decide +kernel⟩, trivial⟩) d_LT_find_15,
  r_if_ne d_LT_find_18 (by decide),
  r_throw0 k_1076 k_1077 rfl d_LT_find_21 d_LT_find_24 d_LT_find_25 d_LT_find_28,
  r_aload_n d_LT_find_29 rfl,
  r_iload_n d_LT_find_30 rfl,
  r_invV (j_all_mem ⟨⟨⟨_, _, _, rfl, k_1179, k_1181, kp_LT_readTapeFor⟩, cw_LT_readTapeFor, by decide, by decide +kernel⟩, trivial⟩) d_LT_find_31,
  r_istore_n d_LT_find_34 rfl (by decide),
  r_aload_n d_LT_find_35 rfl,
  r_aload_n d_LT_find_36 rfl,
  r_aload_n d_LT_find_37 rfl,
  r_getfield (j_all_mem ⟨⟨_, _, _, rfl, w_LT, by decide, ⟨_, k_242, Or.inl rfl⟩⟩, trivial⟩) d_LT_find_38,
  r_iload_n d_LT_find_41 rfl,
  r_iconst d_LT_find_42 (by decide),
  r_invV (j_all_mem ⟨⟨⟨_, _, _, rfl, k_469, k_471, kp_LT_hasSomething⟩, cw_LT_hasSomething, by decide, by decide +kernel⟩, trivial⟩) d_LT_find_43,
  r_invV (j_all_mem ⟨⟨⟨_, _, _, rfl, k_1183, k_1185, kp_LT_show⟩, cw_LT_show, by decide, by decide +kernel⟩, trivial⟩) d_LT_find_46,
  r_ireturn d_LT_find_49 rfl, trivial⟩), (fun q h => by cases h), (fun _ => rfl)⟩
theorem d_LT_flush_0 : decode b_LT_flush 0 = .ok (.aload_n 0, 1) := by decide +kernel
theorem d_LT_flush_1 : decode b_LT_flush 1 = .ok (.getfield 33, 3) := by decide +kernel
theorem d_LT_flush_4 : decode b_LT_flush 4 = .ok (.invokevirtual 170, 3) := by decide +kernel
theorem d_LT_flush_7 : decode b_LT_flush 7 = .ok (.ifCond .le 7, 3) := by decide +kernel
theorem d_LT_flush_10 : decode b_LT_flush 10 = .ok (.aload_n 0, 1) := by decide +kernel
theorem d_LT_flush_11 : decode b_LT_flush 11 = .ok (.invokevirtual 173, 3) := by decide +kernel
theorem d_LT_flush_14 : decode b_LT_flush 14 = .ok (.iconst 0, 1) := by decide +kernel
theorem d_LT_flush_15 : decode b_LT_flush 15 = .ok (.istore_n 1, 1) := by decide +kernel
theorem d_LT_flush_16 : decode b_LT_flush 16 = .ok (.iload_n 1, 1) := by decide +kernel
theorem d_LT_flush_17 : decode b_LT_flush 17 = .ok (.iconst 3, 1) := by decide +kernel
theorem d_LT_flush_18 : decode b_LT_flush 18 = .ok (.if_icmp .ge 40, 3) := by decide +kernel
theorem d_LT_flush_21 : decode b_LT_flush 21 = .ok (.aload_n 0, 1) := by decide +kernel
theorem d_LT_flush_22 : decode b_LT_flush 22 = .ok (.getfield 39, 3) := by decide +kernel
theorem d_LT_flush_25 : decode b_LT_flush 25 = .ok (.iload_n 1, 1) := by decide +kernel
theorem d_LT_flush_26 : decode b_LT_flush 26 = .ok (.aaload, 1) := by decide +kernel
theorem d_LT_flush_27 : decode b_LT_flush 27 = .ok (.invokevirtual 176, 3) := by decide +kernel
theorem d_LT_flush_30 : decode b_LT_flush 30 = .ok (.getstatic 179, 3) := by decide +kernel
theorem d_LT_flush_33 : decode b_LT_flush 33 = .ok (.iload_n 1, 1) := by decide +kernel
theorem d_LT_flush_34 : decode b_LT_flush 34 = .ok (.iaload, 1) := by decide +kernel
theorem d_LT_flush_35 : decode b_LT_flush 35 = .ok (.isub, 1) := by decide +kernel
theorem d_LT_flush_36 : decode b_LT_flush 36 = .ok (.istore_n 2, 1) := by decide +kernel
theorem d_LT_flush_37 : decode b_LT_flush 37 = .ok (.iload_n 2, 1) := by decide +kernel
theorem d_LT_flush_38 : decode b_LT_flush 38 = .ok (.ifCond .le 14, 3) := by decide +kernel
theorem d_LT_flush_41 : decode b_LT_flush 41 = .ok (.aload_n 0, 1) := by decide +kernel
theorem d_LT_flush_42 : decode b_LT_flush 42 = .ok (.iload_n 1, 1) := by decide +kernel
theorem d_LT_flush_43 : decode b_LT_flush 43 = .ok (.invokevirtual 183, 3) := by decide +kernel
theorem d_LT_flush_46 : decode b_LT_flush 46 = .ok (.iinc 2 (-1), 3) := by decide +kernel
theorem d_LT_flush_49 : decode b_LT_flush 49 = .ok (.goto (-12), 3) := by decide +kernel
theorem d_LT_flush_52 : decode b_LT_flush 52 = .ok (.iinc 1 1, 3) := by decide +kernel
theorem d_LT_flush_55 : decode b_LT_flush 55 = .ok (.goto (-39), 3) := by decide +kernel
theorem d_LT_flush_58 : decode b_LT_flush 58 = .ok (.aload_n 0, 1) := by decide +kernel
theorem d_LT_flush_59 : decode b_LT_flush 59 = .ok (.getfield 186, 3) := by decide +kernel
theorem d_LT_flush_62 : decode b_LT_flush 62 = .ok (.ireturn, 1) := by decide +kernel
def q_LT_flush : List (Nat × j_S) := [(0, j_ld 2 0 1),
  (1, j_gf [0] 5 4),
  (4, j_cv [(4, 83)] 0),
  (7, j_br (f_if (fun x => decide (x ≤ 0))) 14 10),
  (10, j_ld 2 0 11),
  (11, j_cv [(0, 58)] 0),
  (14, j_st (f_psh (.int 0)) 15),
  (15, j_so 0 1 16),
  (16, j_ld 0 1 17),
  (17, j_st (f_psh (.int 3)) 18),
  (18, j_br (f_ic (fun x y => decide (y ≤ x))) 58 21),
  (21, j_ld 2 0 22),
  (22, j_gf [0] 6 25),
  (25, j_ld 0 1 26),
  (26, j_alq 27),
  (27, j_cv [(5, 80)] 0),
  (30, j_st (f_psh (.ref 1)) 33),
  (33, j_ld 0 1 34),
  (34, j_al 0 35),
  (35, j_st (f_ii (fun a b => a - b)) 36),
  (36, j_so 0 2 37),
  (37, j_ld 0 2 38),
  (38, j_br (f_if (fun x => decide (x ≤ 0))) 52 41),
  (41, j_ld 2 0 42),
  (42, j_ld 0 1 43),
  (43, j_cv [(0, 50)] 1),
  (46, j_ic 2 (-1) 49),
  (49, j_st f_id 37),
  (52, j_ic 1 1 55),
  (55, j_st f_id 16),
  (58, j_ld 2 0 59),
  (59, j_gf [0] 1 62),
  (62, j_rt 0)]
def i_LT_flush : j_I := (R_LT, b_LT_flush, 3, false, (some .int), [])
def e_LT_flush : j_E := ((y_LT_flush, c_LT_flush), i_LT_flush, j_tab q_LT_flush, [])
theorem o_LT_flush (G : j_G) : j_mok G tm e_LT_flush := ⟨by decide +kernel, Or.inl ⟨rfl, rfl⟩, rfl, (fun h => by cases h), j_tab_ok (i := i_LT_flush) (l := q_LT_flush) (j_all_mem ⟨r_aload_n d_LT_flush_0 rfl,
  r_getfield (j_all_mem ⟨⟨_, _, _, rfl, w_LT, by decide, ⟨_, k_237, Or.inl rfl⟩⟩, trivial⟩) d_LT_flush_1,
  r_invV (j_all_mem ⟨⟨⟨_, _, _, rfl, k_287, k_288, k_289⟩, cw_Me_count, by decide, by decide +kernel⟩, trivial⟩) d_LT_flush_4,
  r_if_le d_LT_flush_7 (by decide),
  r_aload_n d_LT_flush_10 rfl,
  r_invV (j_all_mem ⟨⟨⟨_, _, _, rfl, k_291, k_293, kp_LT_writeOut⟩, cw_LT_writeOut, by decide, by decide +kernel⟩, trivial⟩) d_LT_flush_11,
  r_iconst d_LT_flush_14 (by decide),
  r_istore_n d_LT_flush_15 rfl (by decide),
  r_iload_n d_LT_flush_16 rfl,
  r_iconst d_LT_flush_17 (by decide),
  r_ic_ge d_LT_flush_18 (by decide),
  r_aload_n d_LT_flush_21 rfl,
  r_getfield (j_all_mem ⟨⟨_, _, _, rfl, w_LT, by decide, ⟨_, k_238, Or.inl rfl⟩⟩, trivial⟩) d_LT_flush_22,
  r_iload_n d_LT_flush_25 rfl,
  r_aaload2 d_LT_flush_26,
  r_invV (j_all_mem ⟨⟨⟨_, _, _, rfl, k_966, k_967, k_968⟩, cw_Lv_tableCount, by decide, by decide +kernel⟩, trivial⟩) d_LT_flush_27,
  r_getstatic z_allowed k_970 d_LT_flush_30,
  r_iload_n d_LT_flush_33 rfl,
  r_iaload d_LT_flush_34,
  r_isub d_LT_flush_35,
  r_istore_n d_LT_flush_36 rfl (by decide),
  r_iload_n d_LT_flush_37 rfl,
  r_if_le d_LT_flush_38 (by decide),
  r_aload_n d_LT_flush_41 rfl,
  r_iload_n d_LT_flush_42 rfl,
  r_invV (j_all_mem ⟨⟨⟨_, _, _, rfl, k_972, k_974, kp_LT_pushDown⟩, cw_LT_pushDown, by decide, by decide +kernel⟩, trivial⟩) d_LT_flush_43,
  j_ok_ic d_LT_flush_46 rfl (by decide) (by decide),
  r_goto d_LT_flush_49 (by decide),
  j_ok_ic d_LT_flush_52 rfl (by decide) (by decide),
  r_goto d_LT_flush_55 (by decide),
  r_aload_n d_LT_flush_58 rfl,
  r_getfield (j_all_mem ⟨⟨_, _, _, rfl, w_LT, by decide, ⟨_, k_249, Or.inl rfl⟩⟩, trivial⟩) d_LT_flush_59,
  r_ireturn d_LT_flush_62 rfl, trivial⟩), (fun q h => by cases h), (fun _ => rfl)⟩
theorem d_LT_hasSomething_0 : decode b_LT_hasSomething 0 = .ok (.aload_n 0, 1) := by decide +kernel
theorem d_LT_hasSomething_1 : decode b_LT_hasSomething 1 = .ok (.getfield 56, 3) := by decide +kernel
theorem d_LT_hasSomething_4 : decode b_LT_hasSomething 4 = .ok (.aload_n 1, 1) := by decide +kernel
theorem d_LT_hasSomething_5 : decode b_LT_hasSomething 5 = .ok (.invokevirtual 213, 3) := by decide +kernel
theorem d_LT_hasSomething_8 : decode b_LT_hasSomething 8 = .ok (.aload_n 0, 1) := by decide +kernel
theorem d_LT_hasSomething_9 : decode b_LT_hasSomething 9 = .ok (.getfield 56, 3) := by decide +kernel
theorem d_LT_hasSomething_12 : decode b_LT_hasSomething 12 = .ok (.iload_n 2, 1) := by decide +kernel
theorem d_LT_hasSomething_13 : decode b_LT_hasSomething 13 = .ok (.iconst 1, 1) := by decide +kernel
theorem d_LT_hasSomething_14 : decode b_LT_hasSomething 14 = .ok (.iadd, 1) := by decide +kernel
theorem d_LT_hasSomething_15 : decode b_LT_hasSomething 15 = .ok (.invokevirtual 142, 3) := by decide +kernel
theorem d_LT_hasSomething_18 : decode b_LT_hasSomething 18 = .ok (.iload_n 3, 1) := by decide +kernel
theorem d_LT_hasSomething_19 : decode b_LT_hasSomething 19 = .ok (.istore 4, 2) := by decide +kernel
theorem d_LT_hasSomething_21 : decode b_LT_hasSomething 21 = .ok (.iload 4, 2) := by decide +kernel
theorem d_LT_hasSomething_23 : decode b_LT_hasSomething 23 = .ok (.iconst 5, 1) := by decide +kernel
theorem d_LT_hasSomething_24 : decode b_LT_hasSomething 24 = .ok (.if_icmp .ge 67, 3) := by decide +kernel
theorem d_LT_hasSomething_27 : decode b_LT_hasSomething 27 = .ok (.aload_n 0, 1) := by decide +kernel
theorem d_LT_hasSomething_28 : decode b_LT_hasSomething 28 = .ok (.getfield 45, 3) := by decide +kernel
theorem d_LT_hasSomething_31 : decode b_LT_hasSomething 31 = .ok (.iload 4, 2) := by decide +kernel
theorem d_LT_hasSomething_33 : decode b_LT_hasSomething 33 = .ok (.aaload, 1) := by decide +kernel
theorem d_LT_hasSomething_34 : decode b_LT_hasSomething 34 = .ok (.aload_n 0, 1) := by decide +kernel
theorem d_LT_hasSomething_35 : decode b_LT_hasSomething 35 = .ok (.getfield 56, 3) := by decide +kernel
theorem d_LT_hasSomething_38 : decode b_LT_hasSomething 38 = .ok (.invokevirtual 216, 3) := by decide +kernel
theorem d_LT_hasSomething_41 : decode b_LT_hasSomething 41 = .ok (.iconst 1, 1) := by decide +kernel
theorem d_LT_hasSomething_42 : decode b_LT_hasSomething 42 = .ok (.isub, 1) := by decide +kernel
theorem d_LT_hasSomething_43 : decode b_LT_hasSomething 43 = .ok (.istore 5, 2) := by decide +kernel
theorem d_LT_hasSomething_45 : decode b_LT_hasSomething 45 = .ok (.iload 5, 2) := by decide +kernel
theorem d_LT_hasSomething_47 : decode b_LT_hasSomething 47 = .ok (.ifCond .lt 38, 3) := by decide +kernel
theorem d_LT_hasSomething_50 : decode b_LT_hasSomething 50 = .ok (.aload_n 0, 1) := by decide +kernel
theorem d_LT_hasSomething_51 : decode b_LT_hasSomething 51 = .ok (.getfield 45, 3) := by decide +kernel
theorem d_LT_hasSomething_54 : decode b_LT_hasSomething 54 = .ok (.iload 4, 2) := by decide +kernel
theorem d_LT_hasSomething_56 : decode b_LT_hasSomething 56 = .ok (.aaload, 1) := by decide +kernel
theorem d_LT_hasSomething_57 : decode b_LT_hasSomething 57 = .ok (.iload 5, 2) := by decide +kernel
theorem d_LT_hasSomething_59 : decode b_LT_hasSomething 59 = .ok (.aload_n 0, 1) := by decide +kernel
theorem d_LT_hasSomething_60 : decode b_LT_hasSomething 60 = .ok (.getfield 59, 3) := by decide +kernel
theorem d_LT_hasSomething_63 : decode b_LT_hasSomething 63 = .ok (.invokevirtual 220, 3) := by decide +kernel
theorem d_LT_hasSomething_66 : decode b_LT_hasSomething 66 = .ok (.aload_n 0, 1) := by decide +kernel
theorem d_LT_hasSomething_67 : decode b_LT_hasSomething 67 = .ok (.getfield 59, 3) := by decide +kernel
theorem d_LT_hasSomething_70 : decode b_LT_hasSomething 70 = .ok (.aload_n 1, 1) := by decide +kernel
theorem d_LT_hasSomething_71 : decode b_LT_hasSomething 71 = .ok (.invokevirtual 224, 3) := by decide +kernel
theorem d_LT_hasSomething_74 : decode b_LT_hasSomething 74 = .ok (.ifCond .ne 11, 3) := by decide +kernel
theorem d_LT_hasSomething_77 : decode b_LT_hasSomething 77 = .ok (.aload_n 0, 1) := by decide +kernel
theorem d_LT_hasSomething_78 : decode b_LT_hasSomething 78 = .ok (.getfield 59, 3) := by decide +kernel
theorem d_LT_hasSomething_81 : decode b_LT_hasSomething 81 = .ok (.invokevirtual 227, 3) := by decide +kernel
theorem d_LT_hasSomething_84 : decode b_LT_hasSomething 84 = .ok (.ireturn, 1) := by decide +kernel
theorem d_LT_hasSomething_85 : decode b_LT_hasSomething 85 = .ok (.iinc 4 1, 3) := by decide +kernel
theorem d_LT_hasSomething_88 : decode b_LT_hasSomething 88 = .ok (.goto (-67), 3) := by decide +kernel
theorem d_LT_hasSomething_91 : decode b_LT_hasSomething 91 = .ok (.iconst 0, 1) := by decide +kernel
theorem d_LT_hasSomething_92 : decode b_LT_hasSomething 92 = .ok (.ireturn, 1) := by decide +kernel
def q_LT_hasSomething : List (Nat × j_S) := [(0, j_ld 2 0 1),
  (1, j_gf [0] 11 4),
  (4, j_ld 2 1 5),
  (5, j_cv [(8, 130)] 1),
  (8, j_ld 2 0 9),
  (9, j_gf [0] 11 12),
  (12, j_ld 0 2 13),
  (13, j_st (f_psh (.int 1)) 14),
  (14, j_st (f_ii (fun a b => a + b)) 15),
  (15, j_cv [(8, 140)] 1),
  (18, j_ld 0 3 19),
  (19, j_so 0 4 21),
  (21, j_ld 0 4 23),
  (23, j_st (f_psh (.int 5)) 24),
  (24, j_br (f_ic (fun x y => decide (y ≤ x))) 91 27),
  (27, j_ld 2 0 28),
  (28, j_gf [0] 7 31),
  (31, j_ld 0 4 33),
  (33, j_alq 34),
  (34, j_ld 2 0 35),
  (35, j_gf [0] 11 38),
  (38, j_cv [(5, 111), (4, 111)] 1),
  (41, j_st (f_psh (.int 1)) 42),
  (42, j_st (f_ii (fun a b => a - b)) 43),
  (43, j_so 0 5 45),
  (45, j_ld 0 5 47),
  (47, j_br (f_if (fun x => decide (x < 0))) 85 50),
  (50, j_ld 2 0 51),
  (51, j_gf [0] 7 54),
  (54, j_ld 0 4 56),
  (56, j_alq 57),
  (57, j_ld 0 5 59),
  (59, j_ld 2 0 60),
  (60, j_gf [0] 12 63),
  (63, j_cv [(5, 76), (4, 86)] 2),
  (66, j_ld 2 0 67),
  (67, j_gf [0] 12 70),
  (70, j_ld 2 1 71),
  (71, j_cv [(8, 129)] 1),
  (74, j_br (f_if (fun x => decide (¬ x = 0))) 85 77),
  (77, j_ld 2 0 78),
  (78, j_gf [0] 12 81),
  (81, j_cv [(8, 135)] 0),
  (84, j_rt 3),
  (85, j_ic 4 1 88),
  (88, j_st f_id 21),
  (91, j_st (f_psh (.int 0)) 92),
  (92, j_rt 3)]
def i_LT_hasSomething : j_I := (R_LT, b_LT_hasSomething, 6, false, (some .boolean), [])
def e_LT_hasSomething : j_E := ((y_LT_hasSomething, c_LT_hasSomething), i_LT_hasSomething, j_tab q_LT_hasSomething, [])
theorem o_LT_hasSomething (G : j_G) : j_mok G tm e_LT_hasSomething := ⟨by decide +kernel, Or.inl ⟨rfl, rfl⟩, rfl, (fun h => by cases h), j_tab_ok (i := i_LT_hasSomething) (l := q_LT_hasSomething) (j_all_mem ⟨r_aload_n d_LT_hasSomething_0 rfl,
  r_getfield (j_all_mem ⟨⟨_, _, _, rfl, w_LT, by decide, ⟨_, k_243, Or.inl rfl⟩⟩, trivial⟩) d_LT_hasSomething_1,
  r_aload_n d_LT_hasSomething_4 rfl,
  r_invV (j_all_mem ⟨⟨⟨_, _, _, rfl, k_458, k_436, k_437⟩, cw_Ve_copy, by decide, by decide +kernel⟩, trivial⟩) d_LT_hasSomething_5,
  r_aload_n d_LT_hasSomething_8 rfl,
  r_getfield (j_all_mem ⟨⟨_, _, _, rfl, w_LT, by decide, ⟨_, k_243, Or.inl rfl⟩⟩, trivial⟩) d_LT_hasSomething_9,
  r_iload_n d_LT_hasSomething_12 rfl,
  r_iconst d_LT_hasSomething_13 (by decide),
  r_iadd d_LT_hasSomething_14,
  r_invV (j_all_mem ⟨⟨⟨_, _, _, rfl, k_460, k_311, k_312⟩, cw_Ve_setMoment, by decide, by decide +kernel⟩, trivial⟩) d_LT_hasSomething_15,
  r_iload_n d_LT_hasSomething_18 rfl,
  r_istore d_LT_hasSomething_19 (by decide),
  r_iload d_LT_hasSomething_21,
  r_iconst d_LT_hasSomething_23 (by decide),
  r_ic_ge d_LT_hasSomething_24 (by decide),
  r_aload_n d_LT_hasSomething_27 rfl,
  r_getfield (j_all_mem ⟨⟨_, _, _, rfl, w_LT, by decide, ⟨_, k_239, Or.inl rfl⟩⟩, trivial⟩) d_LT_hasSomething_28,
  r_iload d_LT_hasSomething_31,
  r_aaload2 d_LT_hasSomething_33,
  r_aload_n d_LT_hasSomething_34 rfl,
  r_getfield (j_all_mem ⟨⟨_, _, _, rfl, w_LT, by decide, ⟨_, k_243, Or.inl rfl⟩⟩, trivial⟩) d_LT_hasSomething_35,
  r_invV (j_all_mem ⟨⟨⟨_, _, _, rfl, k_461, k_326, k_1375⟩, cw_Ru_firstNotBefore, by decide, by decide +kernel⟩, ⟨⟨_, _, _, rfl, k_461, k_326, k_1376⟩, cw_Ru_firstNotBefore, by decide, by decide +kernel⟩, trivial⟩) d_LT_hasSomething_38,
  r_iconst d_LT_hasSomething_41 (by decide),
  r_isub d_LT_hasSomething_42,
  r_istore d_LT_hasSomething_43 (by decide),
  r_iload d_LT_hasSomething_45,
  r_if_lt d_LT_hasSomething_47 (by decide),
  r_aload_n d_LT_hasSomething_50 rfl,
  r_getfield (j_all_mem ⟨⟨_, _, _, rfl, w_LT, by decide, ⟨_, k_239, Or.inl rfl⟩⟩, trivial⟩) d_LT_hasSomething_51,
  r_iload d_LT_hasSomething_54,
  r_aaload2 d_LT_hasSomething_56,
  r_iload d_LT_hasSomething_57,
  r_aload_n d_LT_hasSomething_59 rfl,
  r_getfield (j_all_mem ⟨⟨_, _, _, rfl, w_LT, by decide, ⟨_, k_244, Or.inl rfl⟩⟩, trivial⟩) d_LT_hasSomething_60,
  r_invU (y0 := ⟨"LevelTables$Run", "load", "(ILLevelTables$Version;)V"⟩) (owner := "LevelTables$Run") (j_all_mem ⟨⟨⟨_, _, _, rfl, k_463, k_337, k_338, k_339⟩, cw_Lv_load, by decide, by decide +kernel⟩, ⟨⟨_, _, _, rfl, k_463, k_337, k_382, k_296⟩, cw_Me_load, by decide, by decide +kernel⟩, trivial⟩) (fun A U h hK => va_Decl.abs (hK.nw k_336)) d_LT_hasSomething_63,
  r_aload_n d_LT_hasSomething_66 rfl,
  r_getfield (j_all_mem ⟨⟨_, _, _, rfl, w_LT, by decide, ⟨_, k_244, Or.inl rfl⟩⟩, trivial⟩) d_LT_hasSomething_67,
  r_aload_n d_LT_hasSomething_70 rfl,
  r_invV (j_all_mem ⟨⟨⟨_, _, _, rfl, k_464, k_388, k_389⟩, cw_Ve_compareKey, by decide, by decide +kernel⟩, trivial⟩) d_LT_hasSomething_71,
  r_if_ne d_LT_hasSomething_74 (by decide),
  r_aload_n d_LT_hasSomething_77 rfl,
  r_getfield (j_all_mem ⟨⟨_, _, _, rfl, w_LT, by decide, ⟨_, k_244, Or.inl rfl⟩⟩, trivial⟩) d_LT_hasSomething_78,
  r_invV (j_all_mem ⟨⟨⟨_, _, _, rfl, k_465, k_466, k_467⟩, cw_Ve_isThere, by decide, by decide +kernel⟩, trivial⟩) d_LT_hasSomething_81,
  r_zreturn d_LT_hasSomething_84 rfl,
  j_ok_ic d_LT_hasSomething_85 rfl (by decide) (by decide),
  r_goto d_LT_hasSomething_88 (by decide),
  r_iconst d_LT_hasSomething_91 (by decide),
  r_zreturn d_LT_hasSomething_92 rfl, trivial⟩), (fun q h => by cases h), (fun _ => rfl)⟩
theorem d_LT_init_0 : decode b_LT_init 0 = .ok (.aload_n 0, 1) := by decide +kernel
theorem d_LT_init_1 : decode b_LT_init 1 = .ok (.invokespecial 3, 3) := by decide +kernel
theorem d_LT_init_4 : decode b_LT_init 4 = .ok (.aload_n 0, 1) := by decide +kernel
theorem d_LT_init_5 : decode b_LT_init 5 = .ok (.new 9, 3) := by decide +kernel
theorem d_LT_init_8 : decode b_LT_init 8 = .ok (.dup, 1) := by decide +kernel
theorem d_LT_init_9 : decode b_LT_init 9 = .ok (.invokespecial 11, 3) := by decide +kernel
theorem d_LT_init_12 : decode b_LT_init 12 = .ok (.putfield 12, 3) := by decide +kernel
theorem d_LT_init_15 : decode b_LT_init 15 = .ok (.aload_n 0, 1) := by decide +kernel
theorem d_LT_init_16 : decode b_LT_init 16 = .ok (.new 16, 3) := by decide +kernel
theorem d_LT_init_19 : decode b_LT_init 19 = .ok (.dup, 1) := by decide +kernel
theorem d_LT_init_20 : decode b_LT_init 20 = .ok (.invokespecial 18, 3) := by decide +kernel
theorem d_LT_init_23 : decode b_LT_init 23 = .ok (.putfield 19, 3) := by decide +kernel
theorem d_LT_init_26 : decode b_LT_init 26 = .ok (.aload_n 0, 1) := by decide +kernel
theorem d_LT_init_27 : decode b_LT_init 27 = .ok (.new 23, 3) := by decide +kernel
theorem d_LT_init_30 : decode b_LT_init 30 = .ok (.dup, 1) := by decide +kernel
theorem d_LT_init_31 : decode b_LT_init 31 = .ok (.invokespecial 25, 3) := by decide +kernel
theorem d_LT_init_34 : decode b_LT_init 34 = .ok (.putfield 26, 3) := by decide +kernel
theorem d_LT_init_37 : decode b_LT_init 37 = .ok (.aload_n 0, 1) := by decide +kernel
theorem d_LT_init_38 : decode b_LT_init 38 = .ok (.new 30, 3) := by decide +kernel
theorem d_LT_init_41 : decode b_LT_init 41 = .ok (.dup, 1) := by decide +kernel
theorem d_LT_init_42 : decode b_LT_init 42 = .ok (.invokespecial 32, 3) := by decide +kernel
theorem d_LT_init_45 : decode b_LT_init 45 = .ok (.putfield 33, 3) := by decide +kernel
theorem d_LT_init_48 : decode b_LT_init 48 = .ok (.aload_n 0, 1) := by decide +kernel
theorem d_LT_init_49 : decode b_LT_init 49 = .ok (.iconst 4, 1) := by decide +kernel
theorem d_LT_init_50 : decode b_LT_init 50 = .ok (.anewarray 37, 3) := by decide +kernel
theorem d_LT_init_53 : decode b_LT_init 53 = .ok (.putfield 39, 3) := by decide +kernel
theorem d_LT_init_56 : decode b_LT_init 56 = .ok (.aload_n 0, 1) := by decide +kernel
theorem d_LT_init_57 : decode b_LT_init 57 = .ok (.iconst 5, 1) := by decide +kernel
theorem d_LT_init_58 : decode b_LT_init 58 = .ok (.anewarray 43, 3) := by decide +kernel
theorem d_LT_init_61 : decode b_LT_init 61 = .ok (.putfield 45, 3) := by decide +kernel
theorem d_LT_init_64 : decode b_LT_init 64 = .ok (.aload_n 0, 1) := by decide +kernel
theorem d_LT_init_65 : decode b_LT_init 65 = .ok (.new 49, 3) := by decide +kernel
theorem d_LT_init_68 : decode b_LT_init 68 = .ok (.dup, 1) := by decide +kernel
theorem d_LT_init_69 : decode b_LT_init 69 = .ok (.invokespecial 51, 3) := by decide +kernel
theorem d_LT_init_72 : decode b_LT_init 72 = .ok (.putfield 52, 3) := by decide +kernel
theorem d_LT_init_75 : decode b_LT_init 75 = .ok (.aload_n 0, 1) := by decide +kernel
theorem d_LT_init_76 : decode b_LT_init 76 = .ok (.new 49, 3) := by decide +kernel
theorem d_LT_init_79 : decode b_LT_init 79 = .ok (.dup, 1) := by decide +kernel
theorem d_LT_init_80 : decode b_LT_init 80 = .ok (.invokespecial 51, 3) := by decide +kernel
theorem d_LT_init_83 : decode b_LT_init 83 = .ok (.putfield 56, 3) := by decide +kernel
theorem d_LT_init_86 : decode b_LT_init 86 = .ok (.aload_n 0, 1) := by decide +kernel
theorem d_LT_init_87 : decode b_LT_init 87 = .ok (.new 49, 3) := by decide +kernel
theorem d_LT_init_90 : decode b_LT_init 90 = .ok (.dup, 1) := by decide +kernel
theorem d_LT_init_91 : decode b_LT_init 91 = .ok (.invokespecial 51, 3) := by decide +kernel
theorem d_LT_init_94 : decode b_LT_init 94 = .ok (.putfield 59, 3) := by decide +kernel
theorem d_LT_init_97 : decode b_LT_init 97 = .ok (.aload_n 0, 1) := by decide +kernel
theorem d_LT_init_98 : decode b_LT_init 98 = .ok (.new 49, 3) := by decide +kernel
theorem d_LT_init_101 : decode b_LT_init 101 = .ok (.dup, 1) := by decide +kernel
theorem d_LT_init_102 : decode b_LT_init 102 = .ok (.invokespecial 51, 3) := by decide +kernel
theorem d_LT_init_105 : decode b_LT_init 105 = .ok (.putfield 62, 3) := by decide +kernel
theorem d_LT_init_108 : decode b_LT_init 108 = .ok (.aload_n 0, 1) := by decide +kernel
theorem d_LT_init_109 : decode b_LT_init 109 = .ok (.new 49, 3) := by decide +kernel
theorem d_LT_init_112 : decode b_LT_init 112 = .ok (.dup, 1) := by decide +kernel
theorem d_LT_init_113 : decode b_LT_init 113 = .ok (.invokespecial 51, 3) := by decide +kernel
theorem d_LT_init_116 : decode b_LT_init 116 = .ok (.putfield 65, 3) := by decide +kernel
theorem d_LT_init_119 : decode b_LT_init 119 = .ok (.aload_n 0, 1) := by decide +kernel
theorem d_LT_init_120 : decode b_LT_init 120 = .ok (.new 49, 3) := by decide +kernel
theorem d_LT_init_123 : decode b_LT_init 123 = .ok (.dup, 1) := by decide +kernel
theorem d_LT_init_124 : decode b_LT_init 124 = .ok (.invokespecial 51, 3) := by decide +kernel
theorem d_LT_init_127 : decode b_LT_init 127 = .ok (.putfield 68, 3) := by decide +kernel
theorem d_LT_init_130 : decode b_LT_init 130 = .ok (.aload_n 0, 1) := by decide +kernel
theorem d_LT_init_131 : decode b_LT_init 131 = .ok (.getfield 45, 3) := by decide +kernel
theorem d_LT_init_134 : decode b_LT_init 134 = .ok (.iconst 0, 1) := by decide +kernel
theorem d_LT_init_135 : decode b_LT_init 135 = .ok (.aload_n 0, 1) := by decide +kernel
theorem d_LT_init_136 : decode b_LT_init 136 = .ok (.getfield 33, 3) := by decide +kernel
theorem d_LT_init_139 : decode b_LT_init 139 = .ok (.aastore, 1) := by decide +kernel
theorem d_LT_init_140 : decode b_LT_init 140 = .ok (.iconst 0, 1) := by decide +kernel
theorem d_LT_init_141 : decode b_LT_init 141 = .ok (.istore_n 1, 1) := by decide +kernel
theorem d_LT_init_142 : decode b_LT_init 142 = .ok (.iload_n 1, 1) := by decide +kernel
theorem d_LT_init_143 : decode b_LT_init 143 = .ok (.iconst 3, 1) := by decide +kernel
theorem d_LT_init_144 : decode b_LT_init 144 = .ok (.if_icmp .gt 40, 3) := by decide +kernel
theorem d_LT_init_147 : decode b_LT_init 147 = .ok (.aload_n 0, 1) := by decide +kernel
theorem d_LT_init_148 : decode b_LT_init 148 = .ok (.getfield 39, 3) := by decide +kernel
theorem d_LT_init_151 : decode b_LT_init 151 = .ok (.iload_n 1, 1) := by decide +kernel
theorem d_LT_init_152 : decode b_LT_init 152 = .ok (.new 37, 3) := by decide +kernel
theorem d_LT_init_155 : decode b_LT_init 155 = .ok (.dup, 1) := by decide +kernel
theorem d_LT_init_156 : decode b_LT_init 156 = .ok (.aload_n 0, 1) := by decide +kernel
theorem d_LT_init_157 : decode b_LT_init 157 = .ok (.getfield 26, 3) := by decide +kernel
theorem d_LT_init_160 : decode b_LT_init 160 = .ok (.invokespecial 71, 3) := by decide +kernel
theorem d_LT_init_163 : decode b_LT_init 163 = .ok (.aastore, 1) := by decide +kernel
theorem d_LT_init_164 : decode b_LT_init 164 = .ok (.aload_n 0, 1) := by decide +kernel
theorem d_LT_init_165 : decode b_LT_init 165 = .ok (.getfield 45, 3) := by decide +kernel
theorem d_LT_init_168 : decode b_LT_init 168 = .ok (.iload_n 1, 1) := by decide +kernel
theorem d_LT_init_169 : decode b_LT_init 169 = .ok (.iconst 1, 1) := by decide +kernel
theorem d_LT_init_170 : decode b_LT_init 170 = .ok (.iadd, 1) := by decide +kernel
theorem d_LT_init_171 : decode b_LT_init 171 = .ok (.aload_n 0, 1) := by decide +kernel
theorem d_LT_init_172 : decode b_LT_init 172 = .ok (.getfield 39, 3) := by decide +kernel
theorem d_LT_init_175 : decode b_LT_init 175 = .ok (.iload_n 1, 1) := by decide +kernel
theorem d_LT_init_176 : decode b_LT_init 176 = .ok (.aaload, 1) := by decide +kernel
theorem d_LT_init_177 : decode b_LT_init 177 = .ok (.aastore, 1) := by decide +kernel
theorem d_LT_init_178 : decode b_LT_init 178 = .ok (.iinc 1 1, 3) := by decide +kernel
theorem d_LT_init_181 : decode b_LT_init 181 = .ok (.goto (-39), 3) := by decide +kernel
theorem d_LT_init_184 : decode b_LT_init 184 = .ok (.aload_n 0, 1) := by decide +kernel
theorem d_LT_init_185 : decode b_LT_init 185 = .ok (.new 74, 3) := by decide +kernel
theorem d_LT_init_188 : decode b_LT_init 188 = .ok (.dup, 1) := by decide +kernel
theorem d_LT_init_189 : decode b_LT_init 189 = .ok (.aload_n 0, 1) := by decide +kernel
theorem d_LT_init_190 : decode b_LT_init 190 = .ok (.getfield 45, 3) := by decide +kernel
theorem d_LT_init_193 : decode b_LT_init 193 = .ok (.invokespecial 76, 3) := by decide +kernel
theorem d_LT_init_196 : decode b_LT_init 196 = .ok (.putfield 79, 3) := by decide +kernel
theorem d_LT_init_199 : decode b_LT_init 199 = .ok (.aload_n 0, 1) := by decide +kernel
theorem d_LT_init_200 : decode b_LT_init 200 = .ok (.new 83, 3) := by decide +kernel
theorem d_LT_init_203 : decode b_LT_init 203 = .ok (.dup, 1) := by decide +kernel
theorem d_LT_init_204 : decode b_LT_init 204 = .ok (.aload_n 0, 1) := by decide +kernel
theorem d_LT_init_205 : decode b_LT_init 205 = .ok (.getfield 26, 3) := by decide +kernel
theorem d_LT_init_208 : decode b_LT_init 208 = .ok (.invokespecial 85, 3) := by decide +kernel
theorem d_LT_init_211 : decode b_LT_init 211 = .ok (.putfield 86, 3) := by decide +kernel
theorem d_LT_init_214 : decode b_LT_init 214 = .ok (.return_, 1) := by decide +kernel
def q_LT_init : List (Nat × j_S) := [(0, j_ld 2 0 1),
  (1, j_oi 4),
  (4, j_ld 2 0 5),
  (5, j_nw 1 2 [.int 0, .null] 8),
  (8, j_st (f_dup) 9),
  (9, j_ci 124 0),
  (12, j_pf [0] 2 2 15),
  (15, j_ld 2 0 16),
  (16, j_nw 2 2 [.int 0, .null] 19),
  (19, j_st (f_dup) 20),
  (20, j_ci 145 0),
  (23, j_pf [0] 3 2 26),
  (26, j_ld 2 0 27),
  (27, j_nw 3 5 [.int 0, .null, .null, .null, .null] 30),
  (30, j_st (f_dup) 31),
  (31, j_ci 26 0),
  (34, j_pf [0] 4 2 37),
  (37, j_ld 2 0 38),
  (38, j_nw 4 3 [.null, .int 0, .null] 41),
  (41, j_st (f_dup) 42),
  (42, j_ci 84 0),
  (45, j_pf [0] 5 2 48),
  (48, j_ld 2 0 49),
  (49, j_st (f_psh (.int 4)) 50),
  (50, j_na 5 53),
  (53, j_pf [0] 6 2 56),
  (56, j_ld 2 0 57),
  (57, j_st (f_psh (.int 5)) 58),
  (58, j_na 4 61),
  (61, j_pf [0] 7 2 64),
  (64, j_ld 2 0 65),
  (65, j_nw 8 1 [.null] 68),
  (68, j_st (f_dup) 69),
  (69, j_ci 133 0),
  (72, j_pf [0] 10 2 75),
  (75, j_ld 2 0 76),
  (76, j_nw 8 1 [.null] 79),
  (79, j_st (f_dup) 80),
  (80, j_ci 133 0),
  (83, j_pf [0] 11 2 86),
  (86, j_ld 2 0 87),
  (87, j_nw 8 1 [.null] 90),
  (90, j_st (f_dup) 91),
  (91, j_ci 133 0),
  (94, j_pf [0] 12 2 97),
  (97, j_ld 2 0 98),
  (98, j_nw 8 1 [.null] 101),
  (101, j_st (f_dup) 102),
  (102, j_ci 133 0),
  (105, j_pf [0] 13 2 108),
  (108, j_ld 2 0 109),
  (109, j_nw 8 1 [.null] 112),
  (112, j_st (f_dup) 113),
  (113, j_ci 133 0),
  (116, j_pf [0] 14 2 119),
  (119, j_ld 2 0 120),
  (120, j_nw 8 1 [.null] 123),
  (123, j_st (f_dup) 124),
  (124, j_ci 133 0),
  (127, j_pf [0] 15 2 130),
  (130, j_ld 2 0 131),
  (131, j_gf [0] 7 134),
  (134, j_st (f_psh (.int 0)) 135),
  (135, j_ld 2 0 136),
  (136, j_gf [0] 5 139),
  (139, j_aq 140),
  (140, j_st (f_psh (.int 0)) 141),
  (141, j_so 0 1 142),
  (142, j_ld 0 1 143),
  (143, j_st (f_psh (.int 3)) 144),
  (144, j_br (f_ic (fun x y => decide (y < x))) 184 147),
  (147, j_ld 2 0 148),
  (148, j_gf [0] 6 151),
  (151, j_ld 0 1 152),
  (152, j_nw 5 4 [.null, .int 0, .null, .null] 155),
  (155, j_st (f_dup) 156),
  (156, j_ld 2 0 157),
  (157, j_gf [0] 4 160),
  (160, j_ci 72 1),
  (163, j_aq 164),
  (164, j_ld 2 0 165),
  (165, j_gf [0] 7 168),
  (168, j_ld 0 1 169),
  (169, j_st (f_psh (.int 1)) 170),
  (170, j_st (f_ii (fun a b => a + b)) 171),
  (171, j_ld 2 0 172),
  (172, j_gf [0] 6 175),
  (175, j_ld 0 1 176),
  (176, j_alq 177),
  (177, j_aq 178),
  (178, j_ic 1 1 181),
  (181, j_st f_id 142),
  (184, j_ld 2 0 185),
  (185, j_nw 6 8 [.int 0, .int 0, .null, .null, .null, .null, .null, .null] 188),
  (188, j_st (f_dup) 189),
  (189, j_ld 2 0 190),
  (190, j_gf [0] 7 193),
  (193, j_ci 154 1),
  (196, j_pf [0] 8 2 199),
  (199, j_ld 2 0 200),
  (200, j_nw 7 5 [.int 0, .long 0, .null, .null, .null] 203),
  (203, j_st (f_dup) 204),
  (204, j_ld 2 0 205),
  (205, j_gf [0] 4 208),
  (208, j_ci 161 1),
  (211, j_pf [0] 9 2 214),
  (214, j_rv)]
def i_LT_init : j_I := (R_LT, b_LT_init, 2, true, none, [])
def e_LT_init : j_E := ((y_LT_init, c_LT_init), i_LT_init, j_tab q_LT_init, [])
theorem o_LT_init (G : j_G) : j_mok G tm e_LT_init := ⟨by decide +kernel, Or.inl ⟨rfl, rfl⟩, rfl, (fun _ => rfl), j_tab_ok (i := i_LT_init) (l := q_LT_init) (j_all_mem ⟨r_aload_n d_LT_init_0 rfl,
  r_objInit k_40 k_oi k_oc d_LT_init_1,
  r_aload_n d_LT_init_4 rfl,
  r_new (ty := t_Tp) rfl w_Tp t_Tp_ok k_43 k_44 k_2 (fun j hj => by revert j; decide) (by intro v hv a; revert v; simp) d_LT_init_5,
  r_dup d_LT_init_8,
  r_invIN k_45 k_46 rfl rfl cw_Tp_init (by decide) (by decide +kernel) d_LT_init_9,
  r_putfield (fin := true) (j_all_mem ⟨⟨_, _, _, t_LT, _, rfl, w_LT, t_LT_ok, n_LT, by decide, rfl, t_LT_ok 2 (by decide), Or.inr (Or.inr (Or.inl ⟨rfl, by first | exact Or.inl ⟨_, rfl⟩ | exact Or.inr ⟨_, rfl⟩⟩)), ⟨_, k_234, Or.inl rfl⟩, (fun _ => rfl)⟩, trivial⟩) (fun _ => rfl) d_LT_init_12,
  r_aload_n d_LT_init_15 rfl,
  r_new (ty := t_Vi) rfl w_Vi t_Vi_ok k_57 k_58 k_3 (fun j hj => by revert j; decide) (by intro v hv a; revert v; simp) d_LT_init_16,
  r_dup d_LT_init_19,
  r_invI k_59 k_60 rfl rfl cw_Vi_init (by decide) (by decide +kernel) d_LT_init_20,
  r_putfield (fin := true) (j_all_mem ⟨⟨_, _, _, t_LT, _, rfl, w_LT, t_LT_ok, n_LT, by decide, rfl, t_LT_ok 3 (by decide), Or.inr (Or.inr (Or.inl ⟨rfl, by first | exact Or.inl ⟨_, rfl⟩ | exact Or.inr ⟨_, rfl⟩⟩)), ⟨_, k_235, Or.inl rfl⟩, (fun _ => rfl)⟩, trivial⟩) (fun _ => rfl) d_LT_init_23,
  r_aload_n d_LT_init_26 rfl,
  r_new (ty := t_Ch) rfl w_Ch t_Ch_ok k_74 k_75 k_5 (fun j hj => by revert j; decide) (by intro v hv a; revert v; simp) d_LT_init_27,
  r_dup d_LT_init_30,
  r_invIN k_76 k_77 rfl rfl cw_Ch_init (by decide) (by decide +kernel) d_LT_init_31,
  r_putfield (fin := true) (j_all_mem ⟨⟨_, _, _, t_LT, _, rfl, w_LT, t_LT_ok, n_LT, by decide, rfl, t_LT_ok 4 (by decide), Or.inr (Or.inr (Or.inl ⟨rfl, by first | exact Or.inl ⟨_, rfl⟩ | exact Or.inr ⟨_, rfl⟩⟩)), ⟨_, k_236, Or.inl rfl⟩, (fun _ => rfl)⟩, trivial⟩) (fun _ => rfl) d_LT_init_34,
  r_aload_n d_LT_init_37 rfl,
  r_new (ty := t_Me) rfl w_Me t_Me_ok k_98 k_99 k_7 (fun j hj => by revert j; decide) (by intro v hv a; revert v; simp) d_LT_init_38,
  r_dup d_LT_init_41,
  r_invIN k_100 k_101 rfl rfl cw_Me_init (by decide) (by decide +kernel) d_LT_init_42,
  r_putfield (fin := true) (j_all_mem ⟨⟨_, _, _, t_LT, _, rfl, w_LT, t_LT_ok, n_LT, by decide, rfl, t_LT_ok 5 (by decide), Or.inr (Or.inr (Or.inl ⟨rfl, by first | exact Or.inl ⟨_, rfl⟩ | exact Or.inr ⟨_, rfl⟩⟩)), ⟨_, k_237, Or.inl rfl⟩, (fun _ => rfl)⟩, trivial⟩) (fun _ => rfl) d_LT_init_45,
  r_aload_n d_LT_init_48 rfl,
  r_iconst d_LT_init_49 (by decide),
  r_anewarray rfl rfl k_128 k_129 d_LT_init_50,
  r_putfield (fin := true) (j_all_mem ⟨⟨_, _, _, t_LT, _, rfl, w_LT, t_LT_ok, n_LT, by decide, rfl, t_LT_ok 6 (by decide), Or.inr (Or.inr (Or.inl ⟨rfl, by first | exact Or.inl ⟨_, rfl⟩ | exact Or.inr ⟨_, rfl⟩⟩)), ⟨_, k_238, Or.inl rfl⟩, (fun _ => rfl)⟩, trivial⟩) (fun _ => rfl) d_LT_init_53,
  r_aload_n d_LT_init_56 rfl,
  r_iconst d_LT_init_57 (by decide),
  r_anewarray rfl rfl k_130 k_131 d_LT_init_58,
  r_putfield (fin := true) (j_all_mem ⟨⟨_, _, _, t_LT, _, rfl, w_LT, t_LT_ok, n_LT, by decide, rfl, t_LT_ok 7 (by decide), Or.inr (Or.inr (Or.inl ⟨rfl, by first | exact Or.inl ⟨_, rfl⟩ | exact Or.inr ⟨_, rfl⟩⟩)), ⟨_, k_239, Or.inl rfl⟩, (fun _ => rfl)⟩, trivial⟩) (fun _ => rfl) d_LT_init_61,
  r_aload_n d_LT_init_64 rfl,
  r_new (ty := t_Ve) rfl w_Ve t_Ve_ok k_132 k_108 k_8 (fun j hj => by revert j; decide) (by intro v hv a; revert v; simp) d_LT_init_65,
  r_dup d_LT_init_68,
  r_invIN k_133 k_110 rfl rfl cw_Ve_init (by decide) (by decide +kernel) d_LT_init_69,
  r_putfield (fin := true) (j_all_mem ⟨⟨_, _, _, t_LT, _, rfl, w_LT, t_LT_ok, n_LT, by decide, rfl, t_LT_ok 10 (by decide), Or.inr (Or.inr (Or.inl ⟨rfl, by first | exact Or.inl ⟨_, rfl⟩ | exact Or.inr ⟨_, rfl⟩⟩)), ⟨_, k_242, Or.inl rfl⟩, (fun _ => rfl)⟩, trivial⟩) (fun _ => rfl) d_LT_init_72,
  r_aload_n d_LT_init_75 rfl,
  r_new (ty := t_Ve) rfl w_Ve t_Ve_ok k_132 k_108 k_8 (fun j hj => by revert j; decide) (by intro v hv a; revert v; simp) d_LT_init_76,
  r_dup d_LT_init_79,
  r_invIN k_133 k_110 rfl rfl cw_Ve_init (by decide) (by decide +kernel) d_LT_init_80,
  r_putfield (fin := true) (j_all_mem ⟨⟨_, _, _, t_LT, _, rfl, w_LT, t_LT_ok, n_LT, by decide, rfl, t_LT_ok 11 (by decide), Or.inr (Or.inr (Or.inl ⟨rfl, by first | exact Or.inl ⟨_, rfl⟩ | exact Or.inr ⟨_, rfl⟩⟩)), ⟨_, k_243, Or.inl rfl⟩, (fun _ => rfl)⟩, trivial⟩) (fun _ => rfl) d_LT_init_83,
  r_aload_n d_LT_init_86 rfl,
  r_new (ty := t_Ve) rfl w_Ve t_Ve_ok k_132 k_108 k_8 (fun j hj => by revert j; decide) (by intro v hv a; revert v; simp) d_LT_init_87,
  r_dup d_LT_init_90,
  r_invIN k_133 k_110 rfl rfl cw_Ve_init (by decide) (by decide +kernel) d_LT_init_91,
  r_putfield (fin := true) (j_all_mem ⟨⟨_, _, _, t_LT, _, rfl, w_LT, t_LT_ok, n_LT, by decide, rfl, t_LT_ok 12 (by decide), Or.inr (Or.inr (Or.inl ⟨rfl, by first | exact Or.inl ⟨_, rfl⟩ | exact Or.inr ⟨_, rfl⟩⟩)), ⟨_, k_244, Or.inl rfl⟩, (fun _ => rfl)⟩, trivial⟩) (fun _ => rfl) d_LT_init_94,
  r_aload_n d_LT_init_97 rfl,
  r_new (ty := t_Ve) rfl w_Ve t_Ve_ok k_132 k_108 k_8 (fun j hj => by revert j; decide) (by intro v hv a; revert v; simp) d_LT_init_98,
  r_dup d_LT_init_101,
  r_invIN k_133 k_110 rfl rfl cw_Ve_init (by decide) (by decide +kernel) d_LT_init_102,
  r_putfield (fin := true) (j_all_mem ⟨⟨_, _, _, t_LT, _, rfl, w_LT, t_LT_ok, n_LT, by decide, rfl, t_LT_ok 13 (by decide), Or.inr (Or.inr (Or.inl ⟨rfl, by first | exact Or.inl ⟨_, rfl⟩ | exact Or.inr ⟨_, rfl⟩⟩)), ⟨_, k_245, Or.inl rfl⟩, (fun _ => rfl)⟩, trivial⟩) (fun _ => rfl) d_LT_init_105,
  r_aload_n d_LT_init_108 rfl,
  r_new (ty := t_Ve) rfl w_Ve t_Ve_ok k_132 k_108 k_8 (fun j hj => by revert j; decide) (by intro v hv a; revert v; simp) d_LT_init_109,
  r_dup d_LT_init_112,
  r_invIN k_133 k_110 rfl rfl cw_Ve_init (by decide) (by decide +kernel) d_LT_init_113,
  r_putfield (fin := true) (j_all_mem ⟨⟨_, _, _, t_LT, _, rfl, w_LT, t_LT_ok, n_LT, by decide, rfl, t_LT_ok 14 (by decide), Or.inr (Or.inr (Or.inl ⟨rfl, by first | exact Or.inl ⟨_, rfl⟩ | exact Or.inr ⟨_, rfl⟩⟩)), ⟨_, k_246, Or.inl rfl⟩, (fun _ => rfl)⟩, trivial⟩) (fun _ => rfl) d_LT_init_116,
  r_aload_n d_LT_init_119 rfl,
  r_new (ty := t_Ve) rfl w_Ve t_Ve_ok k_132 k_108 k_8 (fun j hj => by revert j; decide) (by intro v hv a; revert v; simp) d_LT_init_120,
  r_dup d_LT_init_123,
  r_invIN k_133 k_110 rfl rfl cw_Ve_init (by decide) (by decide +kernel) d_LT_init_124,
  r_putfield (fin := true) (j_all_mem ⟨⟨_, _, _, t_LT, _, rfl, w_LT, t_LT_ok, n_LT, by decide, rfl, t_LT_ok 15 (by decide), Or.inr (Or.inr (Or.inl ⟨rfl, by first | exact Or.inl ⟨_, rfl⟩ | exact Or.inr ⟨_, rfl⟩⟩)), ⟨_, k_247, Or.inl rfl⟩, (fun _ => rfl)⟩, trivial⟩) (fun _ => rfl) d_LT_init_127,
  r_aload_n d_LT_init_130 rfl,
  r_getfield (j_all_mem ⟨⟨_, _, _, rfl, w_LT, by decide, ⟨_, k_239, Or.inl rfl⟩⟩, trivial⟩) d_LT_init_131,
  r_iconst d_LT_init_134 (by decide),
  r_aload_n d_LT_init_135 rfl,
  r_getfield (j_all_mem ⟨⟨_, _, _, rfl, w_LT, by decide, ⟨_, k_237, Or.inl rfl⟩⟩, trivial⟩) d_LT_init_136,
  r_aastore2 d_LT_init_139,
  r_iconst d_LT_init_140 (by decide),
  r_istore_n d_LT_init_141 rfl (by decide),
  r_iload_n d_LT_init_142 rfl,
  r_iconst d_LT_init_143 (by decide),
  r_ic_gt d_LT_init_144 (by decide),
  r_aload_n d_LT_init_147 rfl,
  r_getfield (j_all_mem ⟨⟨_, _, _, rfl, w_LT, by decide, ⟨_, k_238, Or.inl rfl⟩⟩, trivial⟩) d_LT_init_148,
  r_iload_n d_LT_init_151 rfl,
  r_new (ty := t_Lv) rfl w_Lv t_Lv_ok k_128 k_134 k_9 (fun j hj => by revert j; decide) (by intro v hv a; revert v; simp) d_LT_init_152,
  r_dup d_LT_init_155,
  r_aload_n d_LT_init_156 rfl,
  r_getfield (j_all_mem ⟨⟨_, _, _, rfl, w_LT, by decide, ⟨_, k_236, Or.inl rfl⟩⟩, trivial⟩) d_LT_init_157,
  r_invI k_135 k_136 rfl rfl cw_Lv_init (by decide) (by decide +kernel) d_LT_init_160,
  r_aastore2 d_LT_init_163,
  r_aload_n d_LT_init_164 rfl,
  r_getfield (j_all_mem ⟨⟨_, _, _, rfl, w_LT, by decide, ⟨_, k_239, Or.inl rfl⟩⟩, trivial⟩) d_LT_init_165,
  r_iload_n d_LT_init_168 rfl,
  r_iconst d_LT_init_169 (by decide),
  r_iadd d_LT_init_170,
  r_aload_n d_LT_init_171 rfl,
  r_getfield (j_all_mem ⟨⟨_, _, _, rfl, w_LT, by decide, ⟨_, k_238, Or.inl rfl⟩⟩, trivial⟩) d_LT_init_172,
  r_iload_n d_LT_init_175 rfl,
  r_aaload2 d_LT_init_176,
  r_aastore2 d_LT_init_177,
  j_ok_ic d_LT_init_178 rfl (by decide) (by decide),
  r_goto d_LT_init_181 (by decide),
  r_aload_n d_LT_init_184 rfl,
  r_new (ty := t_Wk) rfl w_Wk t_Wk_ok k_176 k_177 k_13 (fun j hj => by revert j; decide) (by intro v hv a; revert v; simp) d_LT_init_185,
  r_dup d_LT_init_188,
  r_aload_n d_LT_init_189 rfl,
  r_getfield (j_all_mem ⟨⟨_, _, _, rfl, w_LT, by decide, ⟨_, k_239, Or.inl rfl⟩⟩, trivial⟩) d_LT_init_190,
  r_invI k_178 k_179 rfl rfl cw_Wk_init (by decide) (by decide +kernel) d_LT_init_193,
  r_putfield (fin := true) (j_all_mem ⟨⟨_, _, _, t_LT, _, rfl, w_LT, t_LT_ok, n_LT, by decide, rfl, t_LT_ok 8 (by decide), Or.inr (Or.inr (Or.inl ⟨rfl, by first | exact Or.inl ⟨_, rfl⟩ | exact Or.inr ⟨_, rfl⟩⟩)), ⟨_, k_240, Or.inl rfl⟩, (fun _ => rfl)⟩, trivial⟩) (fun _ => rfl) d_LT_init_196,
  r_aload_n d_LT_init_199 rfl,
  r_new (ty := t_Wr) rfl w_Wr t_Wr_ok k_210 k_211 k_14 (fun j hj => by revert j; decide) (by intro v hv a; revert v; simp) d_LT_init_200,
  r_dup d_LT_init_203,
  r_aload_n d_LT_init_204 rfl,
  r_getfield (j_all_mem ⟨⟨_, _, _, rfl, w_LT, by decide, ⟨_, k_236, Or.inl rfl⟩⟩, trivial⟩) d_LT_init_205,
  r_invI k_212 k_213 rfl rfl cw_Wr_init (by decide) (by decide +kernel) d_LT_init_208,
  r_putfield (fin := true) (j_all_mem ⟨⟨_, _, _, t_LT, _, rfl, w_LT, t_LT_ok, n_LT, by decide, rfl, t_LT_ok 9 (by decide), Or.inr (Or.inr (Or.inl ⟨rfl, by first | exact Or.inl ⟨_, rfl⟩ | exact Or.inr ⟨_, rfl⟩⟩)), ⟨_, k_241, Or.inl rfl⟩, (fun _ => rfl)⟩, trivial⟩) (fun _ => rfl) d_LT_init_211,
  r_return d_LT_init_214 rfl, trivial⟩), (fun q h => by cases h), (fun _ => rfl)⟩
theorem d_LT_isSound_0 : decode b_LT_isSound 0 = .ok (.aload_n 0, 1) := by decide +kernel
theorem d_LT_isSound_1 : decode b_LT_isSound 1 = .ok (.getfield 26, 3) := by decide +kernel
theorem d_LT_isSound_4 : decode b_LT_isSound 4 = .ok (.invokevirtual 296, 3) := by decide +kernel
theorem d_LT_isSound_7 : decode b_LT_isSound 7 = .ok (.iconst 0, 1) := by decide +kernel
theorem d_LT_isSound_8 : decode b_LT_isSound 8 = .ok (.istore_n 1, 1) := by decide +kernel
theorem d_LT_isSound_9 : decode b_LT_isSound 9 = .ok (.iload_n 1, 1) := by decide +kernel
theorem d_LT_isSound_10 : decode b_LT_isSound 10 = .ok (.iconst 3, 1) := by decide +kernel
theorem d_LT_isSound_11 : decode b_LT_isSound 11 = .ok (.if_icmp .gt 31, 3) := by decide +kernel
theorem d_LT_isSound_14 : decode b_LT_isSound 14 = .ok (.aload_n 0, 1) := by decide +kernel
theorem d_LT_isSound_15 : decode b_LT_isSound 15 = .ok (.getfield 39, 3) := by decide +kernel
theorem d_LT_isSound_18 : decode b_LT_isSound 18 = .ok (.iload_n 1, 1) := by decide +kernel
theorem d_LT_isSound_19 : decode b_LT_isSound 19 = .ok (.aaload, 1) := by decide +kernel
theorem d_LT_isSound_20 : decode b_LT_isSound 20 = .ok (.aload_n 0, 1) := by decide +kernel
theorem d_LT_isSound_21 : decode b_LT_isSound 21 = .ok (.getfield 62, 3) := by decide +kernel
theorem d_LT_isSound_24 : decode b_LT_isSound 24 = .ok (.aload_n 0, 1) := by decide +kernel
theorem d_LT_isSound_25 : decode b_LT_isSound 25 = .ok (.getfield 65, 3) := by decide +kernel
theorem d_LT_isSound_28 : decode b_LT_isSound 28 = .ok (.invokevirtual 299, 3) := by decide +kernel
theorem d_LT_isSound_31 : decode b_LT_isSound 31 = .ok (.ifCond .ne 5, 3) := by decide +kernel
theorem d_LT_isSound_34 : decode b_LT_isSound 34 = .ok (.iconst 0, 1) := by decide +kernel
theorem d_LT_isSound_35 : decode b_LT_isSound 35 = .ok (.ireturn, 1) := by decide +kernel
theorem d_LT_isSound_36 : decode b_LT_isSound 36 = .ok (.iinc 1 1, 3) := by decide +kernel
theorem d_LT_isSound_39 : decode b_LT_isSound 39 = .ok (.goto (-30), 3) := by decide +kernel
theorem d_LT_isSound_42 : decode b_LT_isSound 42 = .ok (.aload_n 0, 1) := by decide +kernel
theorem d_LT_isSound_43 : decode b_LT_isSound 43 = .ok (.getfield 26, 3) := by decide +kernel
theorem d_LT_isSound_46 : decode b_LT_isSound 46 = .ok (.invokevirtual 302, 3) := by decide +kernel
theorem d_LT_isSound_49 : decode b_LT_isSound 49 = .ok (.ifCond .ne 7, 3) := by decide +kernel
theorem d_LT_isSound_52 : decode b_LT_isSound 52 = .ok (.iconst 1, 1) := by decide +kernel
theorem d_LT_isSound_53 : decode b_LT_isSound 53 = .ok (.goto 4, 3) := by decide +kernel
theorem d_LT_isSound_56 : decode b_LT_isSound 56 = .ok (.iconst 0, 1) := by decide +kernel
theorem d_LT_isSound_57 : decode b_LT_isSound 57 = .ok (.ireturn, 1) := by decide +kernel
def q_LT_isSound : List (Nat × j_S) := [(0, j_ld 2 0 1),
  (1, j_gf [0] 4 4),
  (4, j_cv [(3, 24)] 0),
  (7, j_st (f_psh (.int 0)) 8),
  (8, j_so 0 1 9),
  (9, j_ld 0 1 10),
  (10, j_st (f_psh (.int 3)) 11),
  (11, j_br (f_ic (fun x y => decide (y < x))) 42 14),
  (14, j_ld 2 0 15),
  (15, j_gf [0] 6 18),
  (18, j_ld 0 1 19),
  (19, j_alq 20),
  (20, j_ld 2 0 21),
  (21, j_gf [0] 13 24),
  (24, j_ld 2 0 25),
  (25, j_gf [0] 14 28),
  (28, j_cv [(5, 74)] 2),
  (31, j_br (f_if (fun x => decide (¬ x = 0))) 36 34),
  (34, j_st (f_psh (.int 0)) 35),
  (35, j_rt 3),
  (36, j_ic 1 1 39),
  (39, j_st f_id 9),
  (42, j_ld 2 0 43),
  (43, j_gf [0] 4 46),
  (46, j_cv [(3, 27)] 0),
  (49, j_br (f_if (fun x => decide (¬ x = 0))) 56 52),
  (52, j_st (f_psh (.int 1)) 53),
  (53, j_st f_id 57),
  (56, j_st (f_psh (.int 0)) 57),
  (57, j_rt 3)]
def i_LT_isSound : j_I := (R_LT, b_LT_isSound, 2, false, (some .boolean), [])
def e_LT_isSound : j_E := ((y_LT_isSound, c_LT_isSound), i_LT_isSound, j_tab q_LT_isSound, [])
theorem o_LT_isSound (G : j_G) : j_mok G tm e_LT_isSound := ⟨by decide +kernel, Or.inl ⟨rfl, rfl⟩, rfl, (fun h => by cases h), j_tab_ok (i := i_LT_isSound) (l := q_LT_isSound) (j_all_mem ⟨r_aload_n d_LT_isSound_0 rfl,
  r_getfield (j_all_mem ⟨⟨_, _, _, rfl, w_LT, by decide, ⟨_, k_236, Or.inl rfl⟩⟩, trivial⟩) d_LT_isSound_1,
  r_invV (j_all_mem ⟨⟨⟨_, _, _, rfl, k_994, k_995, k_996⟩, cw_Ch_forgetUses, by decide, by decide +kernel⟩, trivial⟩) d_LT_isSound_4,
  r_iconst d_LT_isSound_7 (by decide),
  r_istore_n d_LT_isSound_8 rfl (by decide),
  r_iload_n d_LT_isSound_9 rfl,
  r_iconst d_LT_isSound_10 (by decide),
  r_ic_gt d_LT_isSound_11 (by decide),
  r_aload_n d_LT_isSound_14 rfl,
  r_getfield (j_all_mem ⟨⟨_, _, _, rfl, w_LT, by decide, ⟨_, k_238, Or.inl rfl⟩⟩, trivial⟩) d_LT_isSound_15,
  r_iload_n d_LT_isSound_18 rfl,
  r_aaload2 d_LT_isSound_19,
  r_aload_n d_LT_isSound_20 rfl,
  r_getfield (j_all_mem ⟨⟨_, _, _, rfl, w_LT, by decide, ⟨_, k_245, Or.inl rfl⟩⟩, trivial⟩) d_LT_isSound_21,
  r_aload_n d_LT_isSound_24 rfl,
  r_getfield (j_all_mem ⟨⟨_, _, _, rfl, w_LT, by decide, ⟨_, k_246, Or.inl rfl⟩⟩, trivial⟩) d_LT_isSound_25,
  r_invV (j_all_mem ⟨⟨⟨_, _, _, rfl, k_999, k_1000, k_1001⟩, cw_Lv_isSound, by decide, by decide +kernel⟩, trivial⟩) d_LT_isSound_28,
  r_if_ne d_LT_isSound_31 (by decide),
  r_iconst d_LT_isSound_34 (by decide),
  r_zreturn d_LT_isSound_35 rfl,
  j_ok_ic d_LT_isSound_36 rfl (by decide) (by decide),
  r_goto d_LT_isSound_39 (by decide),
  r_aload_n d_LT_isSound_42 rfl,
  r_getfield (j_all_mem ⟨⟨_, _, _, rfl, w_LT, by decide, ⟨_, k_236, Or.inl rfl⟩⟩, trivial⟩) d_LT_isSound_43,
  r_invV (j_all_mem ⟨⟨⟨_, _, _, rfl, k_1024, k_1025, k_1026⟩, cw_Ch_isMisused, by decide, by decide +kernel⟩, trivial⟩) d_LT_isSound_46,
  r_if_ne d_LT_isSound_49 (by decide),
  r_iconst d_LT_isSound_52 (by decide),
  r_goto d_LT_isSound_53 (by decide),
  r_iconst d_LT_isSound_56 (by decide),
  r_zreturn d_LT_isSound_57 rfl, trivial⟩), (fun q h => by cases h), (fun _ => rfl)⟩
theorem d_LT_merge_0 : decode b_LT_merge 0 = .ok (.iload_n 1, 1) := by decide +kernel
theorem d_LT_merge_1 : decode b_LT_merge 1 = .ok (.ifCond .eq 12, 3) := by decide +kernel
theorem d_LT_merge_4 : decode b_LT_merge 4 = .ok (.aload_n 0, 1) := by decide +kernel
theorem d_LT_merge_5 : decode b_LT_merge 5 = .ok (.invokevirtual 190, 3) := by decide +kernel
theorem d_LT_merge_8 : decode b_LT_merge 8 = .ok (.aload_n 0, 1) := by decide +kernel
theorem d_LT_merge_9 : decode b_LT_merge 9 = .ok (.getfield 186, 3) := by decide +kernel
theorem d_LT_merge_12 : decode b_LT_merge 12 = .ok (.ireturn, 1) := by decide +kernel
theorem d_LT_merge_13 : decode b_LT_merge 13 = .ok (.iconst 0, 1) := by decide +kernel
theorem d_LT_merge_14 : decode b_LT_merge 14 = .ok (.istore_n 2, 1) := by decide +kernel
theorem d_LT_merge_15 : decode b_LT_merge 15 = .ok (.iload_n 2, 1) := by decide +kernel
theorem d_LT_merge_16 : decode b_LT_merge 16 = .ok (.iconst 3, 1) := by decide +kernel
theorem d_LT_merge_17 : decode b_LT_merge 17 = .ok (.if_icmp .ge 31, 3) := by decide +kernel
theorem d_LT_merge_20 : decode b_LT_merge 20 = .ok (.aload_n 0, 1) := by decide +kernel
theorem d_LT_merge_21 : decode b_LT_merge 21 = .ok (.getfield 39, 3) := by decide +kernel
theorem d_LT_merge_24 : decode b_LT_merge 24 = .ok (.iload_n 2, 1) := by decide +kernel
theorem d_LT_merge_25 : decode b_LT_merge 25 = .ok (.aaload, 1) := by decide +kernel
theorem d_LT_merge_26 : decode b_LT_merge 26 = .ok (.invokevirtual 176, 3) := by decide +kernel
theorem d_LT_merge_29 : decode b_LT_merge 29 = .ok (.ifCond .le 13, 3) := by decide +kernel
theorem d_LT_merge_32 : decode b_LT_merge 32 = .ok (.aload_n 0, 1) := by decide +kernel
theorem d_LT_merge_33 : decode b_LT_merge 33 = .ok (.iload_n 2, 1) := by decide +kernel
theorem d_LT_merge_34 : decode b_LT_merge 34 = .ok (.invokevirtual 183, 3) := by decide +kernel
theorem d_LT_merge_37 : decode b_LT_merge 37 = .ok (.aload_n 0, 1) := by decide +kernel
theorem d_LT_merge_38 : decode b_LT_merge 38 = .ok (.getfield 186, 3) := by decide +kernel
theorem d_LT_merge_41 : decode b_LT_merge 41 = .ok (.ireturn, 1) := by decide +kernel
theorem d_LT_merge_42 : decode b_LT_merge 42 = .ok (.iinc 2 1, 3) := by decide +kernel
theorem d_LT_merge_45 : decode b_LT_merge 45 = .ok (.goto (-30), 3) := by decide +kernel
theorem d_LT_merge_48 : decode b_LT_merge 48 = .ok (.aload_n 0, 1) := by decide +kernel
theorem d_LT_merge_49 : decode b_LT_merge 49 = .ok (.getfield 186, 3) := by decide +kernel
theorem d_LT_merge_52 : decode b_LT_merge 52 = .ok (.ireturn, 1) := by decide +kernel
def q_LT_merge : List (Nat × j_S) := [(0, j_ld 0 1 1),
  (1, j_br (f_if (fun x => decide (x = 0))) 13 4),
  (4, j_ld 2 0 5),
  (5, j_cv [(0, 46)] 0),
  (8, j_ld 2 0 9),
  (9, j_gf [0] 1 12),
  (12, j_rt 0),
  (13, j_st (f_psh (.int 0)) 14),
  (14, j_so 0 2 15),
  (15, j_ld 0 2 16),
  (16, j_st (f_psh (.int 3)) 17),
  (17, j_br (f_ic (fun x y => decide (y ≤ x))) 48 20),
  (20, j_ld 2 0 21),
  (21, j_gf [0] 6 24),
  (24, j_ld 0 2 25),
  (25, j_alq 26),
  (26, j_cv [(5, 80)] 0),
  (29, j_br (f_if (fun x => decide (x ≤ 0))) 42 32),
  (32, j_ld 2 0 33),
  (33, j_ld 0 2 34),
  (34, j_cv [(0, 50)] 1),
  (37, j_ld 2 0 38),
  (38, j_gf [0] 1 41),
  (41, j_rt 0),
  (42, j_ic 2 1 45),
  (45, j_st f_id 15),
  (48, j_ld 2 0 49),
  (49, j_gf [0] 1 52),
  (52, j_rt 0)]
def i_LT_merge : j_I := (R_LT, b_LT_merge, 3, false, (some .int), [])
def e_LT_merge : j_E := ((y_LT_merge, c_LT_merge), i_LT_merge, j_tab q_LT_merge, [])
theorem o_LT_merge (G : j_G) : j_mok G tm e_LT_merge := ⟨by decide +kernel, Or.inl ⟨rfl, rfl⟩, rfl, (fun h => by cases h), j_tab_ok (i := i_LT_merge) (l := q_LT_merge) (j_all_mem ⟨r_iload_n d_LT_merge_0 rfl,
  r_if_eq d_LT_merge_1 (by decide),
  r_aload_n d_LT_merge_4 rfl,
  r_invV (j_all_mem ⟨⟨⟨_, _, _, rfl, k_981, k_983, kp_LT_mergeAll⟩, cw_LT_mergeAll, by decide, by decide +kernel⟩, trivial⟩) d_LT_merge_5,
  r_aload_n d_LT_merge_8 rfl,
  r_getfield (j_all_mem ⟨⟨_, _, _, rfl, w_LT, by decide, ⟨_, k_249, Or.inl rfl⟩⟩, trivial⟩) d_LT_merge_9,
  r_ireturn d_LT_merge_12 rfl,
  r_iconst d_LT_merge_13 (by decide),
  r_istore_n d_LT_merge_14 rfl (by decide),
  r_iload_n d_LT_merge_15 rfl,
  r_iconst d_LT_merge_16 (by decide),
  r_ic_ge d_LT_merge_17 (by decide),
  r_aload_n d_LT_merge_20 rfl,
  r_getfield (j_all_mem ⟨⟨_, _, _, rfl, w_LT, by decide, ⟨_, k_238, Or.inl rfl⟩⟩, trivial⟩) d_LT_merge_21,
  r_iload_n d_LT_merge_24 rfl,
  r_aaload2 d_LT_merge_25,
  r_invV (j_all_mem ⟨⟨⟨_, _, _, rfl, k_966, k_967, k_968⟩, cw_Lv_tableCount, by decide, by decide +kernel⟩, trivial⟩) d_LT_merge_26,
  r_if_le d_LT_merge_29 (by decide),
  r_aload_n d_LT_merge_32 rfl,
  r_iload_n d_LT_merge_33 rfl,
  r_invV (j_all_mem ⟨⟨⟨_, _, _, rfl, k_972, k_974, kp_LT_pushDown⟩, cw_LT_pushDown, by decide, by decide +kernel⟩, trivial⟩) d_LT_merge_34,
  r_aload_n d_LT_merge_37 rfl,
  r_getfield (j_all_mem ⟨⟨_, _, _, rfl, w_LT, by decide, ⟨_, k_249, Or.inl rfl⟩⟩, trivial⟩) d_LT_merge_38,
  r_ireturn d_LT_merge_41 rfl,
  j_ok_ic d_LT_merge_42 rfl (by decide) (by decide),
  r_goto d_LT_merge_45 (by decide),
  r_aload_n d_LT_merge_48 rfl,
  r_getfield (j_all_mem ⟨⟨_, _, _, rfl, w_LT, by decide, ⟨_, k_249, Or.inl rfl⟩⟩, trivial⟩) d_LT_merge_49,
  r_ireturn d_LT_merge_52 rfl, trivial⟩), (fun q h => by cases h), (fun _ => rfl)⟩
theorem d_LT_mergeAll_0 : decode b_LT_mergeAll 0 = .ok (.aload_n 0, 1) := by decide +kernel
theorem d_LT_mergeAll_1 : decode b_LT_mergeAll 1 = .ok (.getfield 79, 3) := by decide +kernel
theorem d_LT_mergeAll_4 : decode b_LT_mergeAll 4 = .ok (.invokevirtual 230, 3) := by decide +kernel
theorem d_LT_mergeAll_7 : decode b_LT_mergeAll 7 = .ok (.iconst 0, 1) := by decide +kernel
theorem d_LT_mergeAll_8 : decode b_LT_mergeAll 8 = .ok (.istore_n 1, 1) := by decide +kernel
theorem d_LT_mergeAll_9 : decode b_LT_mergeAll 9 = .ok (.iload_n 1, 1) := by decide +kernel
theorem d_LT_mergeAll_10 : decode b_LT_mergeAll 10 = .ok (.iconst 3, 1) := by decide +kernel
theorem d_LT_mergeAll_11 : decode b_LT_mergeAll 11 = .ok (.if_icmp .gt 29, 3) := by decide +kernel
theorem d_LT_mergeAll_14 : decode b_LT_mergeAll 14 = .ok (.aload_n 0, 1) := by decide +kernel
theorem d_LT_mergeAll_15 : decode b_LT_mergeAll 15 = .ok (.getfield 79, 3) := by decide +kernel
theorem d_LT_mergeAll_18 : decode b_LT_mergeAll 18 = .ok (.iload_n 1, 1) := by decide +kernel
theorem d_LT_mergeAll_19 : decode b_LT_mergeAll 19 = .ok (.iconst 1, 1) := by decide +kernel
theorem d_LT_mergeAll_20 : decode b_LT_mergeAll 20 = .ok (.iadd, 1) := by decide +kernel
theorem d_LT_mergeAll_21 : decode b_LT_mergeAll 21 = .ok (.iconst 0, 1) := by decide +kernel
theorem d_LT_mergeAll_22 : decode b_LT_mergeAll 22 = .ok (.aload_n 0, 1) := by decide +kernel
theorem d_LT_mergeAll_23 : decode b_LT_mergeAll 23 = .ok (.getfield 39, 3) := by decide +kernel
theorem d_LT_mergeAll_26 : decode b_LT_mergeAll 26 = .ok (.iload_n 1, 1) := by decide +kernel
theorem d_LT_mergeAll_27 : decode b_LT_mergeAll 27 = .ok (.aaload, 1) := by decide +kernel
theorem d_LT_mergeAll_28 : decode b_LT_mergeAll 28 = .ok (.invokevirtual 276, 3) := by decide +kernel
theorem d_LT_mergeAll_31 : decode b_LT_mergeAll 31 = .ok (.invokevirtual 234, 3) := by decide +kernel
theorem d_LT_mergeAll_34 : decode b_LT_mergeAll 34 = .ok (.iinc 1 1, 3) := by decide +kernel
theorem d_LT_mergeAll_37 : decode b_LT_mergeAll 37 = .ok (.goto (-28), 3) := by decide +kernel
theorem d_LT_mergeAll_40 : decode b_LT_mergeAll 40 = .ok (.aload_n 0, 1) := by decide +kernel
theorem d_LT_mergeAll_41 : decode b_LT_mergeAll 41 = .ok (.iconst 3, 1) := by decide +kernel
theorem d_LT_mergeAll_42 : decode b_LT_mergeAll 42 = .ok (.invokevirtual 260, 3) := by decide +kernel
theorem d_LT_mergeAll_45 : decode b_LT_mergeAll 45 = .ok (.iconst 0, 1) := by decide +kernel
theorem d_LT_mergeAll_46 : decode b_LT_mergeAll 46 = .ok (.istore_n 1, 1) := by decide +kernel
theorem d_LT_mergeAll_47 : decode b_LT_mergeAll 47 = .ok (.iload_n 1, 1) := by decide +kernel
theorem d_LT_mergeAll_48 : decode b_LT_mergeAll 48 = .ok (.iconst 3, 1) := by decide +kernel
theorem d_LT_mergeAll_49 : decode b_LT_mergeAll 49 = .ok (.if_icmp .gt 28, 3) := by decide +kernel
theorem d_LT_mergeAll_52 : decode b_LT_mergeAll 52 = .ok (.aload_n 0, 1) := by decide +kernel
theorem d_LT_mergeAll_53 : decode b_LT_mergeAll 53 = .ok (.getfield 39, 3) := by decide +kernel
theorem d_LT_mergeAll_56 : decode b_LT_mergeAll 56 = .ok (.iload_n 1, 1) := by decide +kernel
theorem d_LT_mergeAll_57 : decode b_LT_mergeAll 57 = .ok (.aaload, 1) := by decide +kernel
theorem d_LT_mergeAll_58 : decode b_LT_mergeAll 58 = .ok (.iconst 0, 1) := by decide +kernel
theorem d_LT_mergeAll_59 : decode b_LT_mergeAll 59 = .ok (.aload_n 0, 1) := by decide +kernel
theorem d_LT_mergeAll_60 : decode b_LT_mergeAll 60 = .ok (.getfield 39, 3) := by decide +kernel
theorem d_LT_mergeAll_63 : decode b_LT_mergeAll 63 = .ok (.iload_n 1, 1) := by decide +kernel
theorem d_LT_mergeAll_64 : decode b_LT_mergeAll 64 = .ok (.aaload, 1) := by decide +kernel
theorem d_LT_mergeAll_65 : decode b_LT_mergeAll 65 = .ok (.invokevirtual 176, 3) := by decide +kernel
theorem d_LT_mergeAll_68 : decode b_LT_mergeAll 68 = .ok (.invokevirtual 263, 3) := by decide +kernel
theorem d_LT_mergeAll_71 : decode b_LT_mergeAll 71 = .ok (.iinc 1 1, 3) := by decide +kernel
theorem d_LT_mergeAll_74 : decode b_LT_mergeAll 74 = .ok (.goto (-27), 3) := by decide +kernel
theorem d_LT_mergeAll_77 : decode b_LT_mergeAll 77 = .ok (.aload_n 0, 1) := by decide +kernel
theorem d_LT_mergeAll_78 : decode b_LT_mergeAll 78 = .ok (.getfield 39, 3) := by decide +kernel
theorem d_LT_mergeAll_81 : decode b_LT_mergeAll 81 = .ok (.iconst 3, 1) := by decide +kernel
theorem d_LT_mergeAll_82 : decode b_LT_mergeAll 82 = .ok (.aaload, 1) := by decide +kernel
theorem d_LT_mergeAll_83 : decode b_LT_mergeAll 83 = .ok (.iconst 0, 1) := by decide +kernel
theorem d_LT_mergeAll_84 : decode b_LT_mergeAll 84 = .ok (.aload_n 0, 1) := by decide +kernel
theorem d_LT_mergeAll_85 : decode b_LT_mergeAll 85 = .ok (.getfield 86, 3) := by decide +kernel
theorem d_LT_mergeAll_88 : decode b_LT_mergeAll 88 = .ok (.invokevirtual 267, 3) := by decide +kernel
theorem d_LT_mergeAll_91 : decode b_LT_mergeAll 91 = .ok (.invokevirtual 271, 3) := by decide +kernel
theorem d_LT_mergeAll_94 : decode b_LT_mergeAll 94 = .ok (.return_, 1) := by decide +kernel
def q_LT_mergeAll : List (Nat × j_S) := [(0, j_ld 2 0 1),
  (1, j_gf [0] 8 4),
  (4, j_cv [(6, 152)] 0),
  (7, j_st (f_psh (.int 0)) 8),
  (8, j_so 0 1 9),
  (9, j_ld 0 1 10),
  (10, j_st (f_psh (.int 3)) 11),
  (11, j_br (f_ic (fun x y => decide (y < x))) 40 14),
  (14, j_ld 2 0 15),
  (15, j_gf [0] 8 18),
  (18, j_ld 0 1 19),
  (19, j_st (f_psh (.int 1)) 20),
  (20, j_st (f_ii (fun a b => a + b)) 21),
  (21, j_st (f_psh (.int 0)) 22),
  (22, j_ld 2 0 23),
  (23, j_gf [0] 6 26),
  (26, j_ld 0 1 27),
  (27, j_alq 28),
  (28, j_cv [(5, 69)] 0),
  (31, j_cv [(6, 153)] 3),
  (34, j_ic 1 1 37),
  (37, j_st f_id 9),
  (40, j_ld 2 0 41),
  (41, j_st (f_psh (.int 3)) 42),
  (42, j_cv [(0, 57)] 1),
  (45, j_st (f_psh (.int 0)) 46),
  (46, j_so 0 1 47),
  (47, j_ld 0 1 48),
  (48, j_st (f_psh (.int 3)) 49),
  (49, j_br (f_ic (fun x y => decide (y < x))) 77 52),
  (52, j_ld 2 0 53),
  (53, j_gf [0] 6 56),
  (56, j_ld 0 1 57),
  (57, j_alq 58),
  (58, j_st (f_psh (.int 0)) 59),
  (59, j_ld 2 0 60),
  (60, j_gf [0] 6 63),
  (63, j_ld 0 1 64),
  (64, j_alq 65),
  (65, j_cv [(5, 80)] 0),
  (68, j_cv [(5, 77)] 2),
  (71, j_ic 1 1 74),
  (74, j_st f_id 47),
  (77, j_ld 2 0 78),
  (78, j_gf [0] 6 81),
  (81, j_st (f_psh (.int 3)) 82),
  (82, j_alq 83),
  (83, j_st (f_psh (.int 0)) 84),
  (84, j_ld 2 0 85),
  (85, j_gf [0] 9 88),
  (88, j_cv [(7, 163)] 0),
  (91, j_cv [(5, 73)] 2),
  (94, j_rv)]
def i_LT_mergeAll : j_I := (R_LT, b_LT_mergeAll, 2, false, none, [])
def e_LT_mergeAll : j_E := ((y_LT_mergeAll, c_LT_mergeAll), i_LT_mergeAll, j_tab q_LT_mergeAll, [])
theorem o_LT_mergeAll (G : j_G) : j_mok G tm e_LT_mergeAll := ⟨by decide +kernel, Or.inl ⟨rfl, rfl⟩, rfl, (fun h => by cases h), j_tab_ok (i := i_LT_mergeAll) (l := q_LT_mergeAll) (j_all_mem ⟨r_aload_n d_LT_mergeAll_0 rfl,
  r_getfield (j_all_mem ⟨⟨_, _, _, rfl, w_LT, by decide, ⟨_, k_240, Or.inl rfl⟩⟩, trivial⟩) d_LT_mergeAll_1,
  r_invV (j_all_mem ⟨⟨⟨_, _, _, rfl, k_400, k_401, k_402⟩, cw_Wk_clear, by decide, by decide +kernel⟩, trivial⟩) d_LT_mergeAll_4,
  r_iconst d_LT_mergeAll_7 (by decide),
  r_istore_n d_LT_mergeAll_8 rfl (by decide),
  r_iload_n d_LT_mergeAll_9 rfl,
  r_iconst d_LT_mergeAll_10 (by decide),
  r_ic_gt d_LT_mergeAll_11 (by decide),
  r_aload_n d_LT_mergeAll_14 rfl,
  r_getfield (j_all_mem ⟨⟨_, _, _, rfl, w_LT, by decide, ⟨_, k_240, Or.inl rfl⟩⟩, trivial⟩) d_LT_mergeAll_15,
  r_iload_n d_LT_mergeAll_18 rfl,
  r_iconst d_LT_mergeAll_19 (by decide),
  r_iadd d_LT_mergeAll_20,
  r_iconst d_LT_mergeAll_21 (by decide),
  r_aload_n d_LT_mergeAll_22 rfl,
  r_getfield (j_all_mem ⟨⟨_, _, _, rfl, w_LT, by decide, ⟨_, k_238, Or.inl rfl⟩⟩, trivial⟩) d_LT_mergeAll_23,
  r_iload_n d_LT_mergeAll_26 rfl,
  r_aaload2 d_LT_mergeAll_27,
  r_invV (j_all_mem ⟨⟨⟨_, _, _, rfl, k_985, k_332, k_1387⟩, cw_Lv_count, by decide, by decide +kernel⟩, trivial⟩) d_LT_mergeAll_28,
  r_invV (j_all_mem ⟨⟨⟨_, _, _, rfl, k_405, k_406, k_407⟩, cw_Wk_cover, by decide, by decide +kernel⟩, trivial⟩) d_LT_mergeAll_31,
  j_ok_ic d_LT_mergeAll_34 rfl (by decide) (by decide),
  r_goto d_LT_mergeAll_37 (by decide),
  r_aload_n d_LT_mergeAll_40 rfl,
  r_iconst d_LT_mergeAll_41 (by decide),
  r_invV (j_all_mem ⟨⟨⟨_, _, _, rfl, k_414, k_416, kp_LT_writeNeeded⟩, cw_LT_writeNeeded, by decide, by decide +kernel⟩, trivial⟩) d_LT_mergeAll_42,
  r_iconst d_LT_mergeAll_45 (by decide),
  r_istore_n d_LT_mergeAll_46 rfl (by decide),
  r_iload_n d_LT_mergeAll_47 rfl,
  r_iconst d_LT_mergeAll_48 (by decide),
  r_ic_gt d_LT_mergeAll_49 (by decide),
  r_aload_n d_LT_mergeAll_52 rfl,
  r_getfield (j_all_mem ⟨⟨_, _, _, rfl, w_LT, by decide, ⟨_, k_238, Or.inl rfl⟩⟩, trivial⟩) d_LT_mergeAll_53,
  r_iload_n d_LT_mergeAll_56 rfl,
  r_aaload2 d_LT_mergeAll_57,
  r_iconst d_LT_mergeAll_58 (by decide),
  r_aload_n d_LT_mergeAll_59 rfl,
  r_getfield (j_all_mem ⟨⟨_, _, _, rfl, w_LT, by decide, ⟨_, k_238, Or.inl rfl⟩⟩, trivial⟩) d_LT_mergeAll_60,
  r_iload_n d_LT_mergeAll_63 rfl,
  r_aaload2 d_LT_mergeAll_64,
  r_invV (j_all_mem ⟨⟨⟨_, _, _, rfl, k_966, k_967, k_968⟩, cw_Lv_tableCount, by decide, by decide +kernel⟩, trivial⟩) d_LT_mergeAll_65,
  r_invV (j_all_mem ⟨⟨⟨_, _, _, rfl, k_599, k_600, k_601⟩, cw_Lv_remove, by decide, by decide +kernel⟩, trivial⟩) d_LT_mergeAll_68,
  j_ok_ic d_LT_mergeAll_71 rfl (by decide) (by decide),
  r_goto d_LT_mergeAll_74 (by decide),
  r_aload_n d_LT_mergeAll_77 rfl,
  r_getfield (j_all_mem ⟨⟨_, _, _, rfl, w_LT, by decide, ⟨_, k_238, Or.inl rfl⟩⟩, trivial⟩) d_LT_mergeAll_78,
  r_iconst d_LT_mergeAll_81 (by decide),
  r_aaload2 d_LT_mergeAll_82,
  r_iconst d_LT_mergeAll_83 (by decide),
  r_aload_n d_LT_mergeAll_84 rfl,
  r_getfield (j_all_mem ⟨⟨_, _, _, rfl, w_LT, by decide, ⟨_, k_241, Or.inl rfl⟩⟩, trivial⟩) d_LT_mergeAll_85,
  r_invV (j_all_mem ⟨⟨⟨_, _, _, rfl, k_633, k_634, k_635⟩, cw_Wr_tables, by decide, by decide +kernel⟩, trivial⟩) d_LT_mergeAll_88,
  r_invV (j_all_mem ⟨⟨⟨_, _, _, rfl, k_637, k_638, k_639⟩, cw_Lv_insert, by decide, by decide +kernel⟩, trivial⟩) d_LT_mergeAll_91,
  r_return d_LT_mergeAll_94 rfl, trivial⟩), (fun q h => by cases h), (fun _ => rfl)⟩
theorem d_LT_nextMoment_0 : decode b_LT_nextMoment 0 = .ok (.aload_n 0, 1) := by decide +kernel
theorem d_LT_nextMoment_1 : decode b_LT_nextMoment 1 = .ok (.getfield 56, 3) := by decide +kernel
theorem d_LT_nextMoment_4 : decode b_LT_nextMoment 4 = .ok (.aload_n 1, 1) := by decide +kernel
theorem d_LT_nextMoment_5 : decode b_LT_nextMoment 5 = .ok (.invokevirtual 213, 3) := by decide +kernel
theorem d_LT_nextMoment_8 : decode b_LT_nextMoment 8 = .ok (.aload_n 0, 1) := by decide +kernel
theorem d_LT_nextMoment_9 : decode b_LT_nextMoment 9 = .ok (.getfield 56, 3) := by decide +kernel
theorem d_LT_nextMoment_12 : decode b_LT_nextMoment 12 = .ok (.aload_n 1, 1) := by decide +kernel
theorem d_LT_nextMoment_13 : decode b_LT_nextMoment 13 = .ok (.invokevirtual 162, 3) := by decide +kernel
theorem d_LT_nextMoment_16 : decode b_LT_nextMoment 16 = .ok (.iconst 1, 1) := by decide +kernel
theorem d_LT_nextMoment_17 : decode b_LT_nextMoment 17 = .ok (.iadd, 1) := by decide +kernel
theorem d_LT_nextMoment_18 : decode b_LT_nextMoment 18 = .ok (.invokevirtual 142, 3) := by decide +kernel
theorem d_LT_nextMoment_21 : decode b_LT_nextMoment 21 = .ok (.iload_n 2, 1) := by decide +kernel
theorem d_LT_nextMoment_22 : decode b_LT_nextMoment 22 = .ok (.istore_n 3, 1) := by decide +kernel
theorem d_LT_nextMoment_23 : decode b_LT_nextMoment 23 = .ok (.iload_n 3, 1) := by decide +kernel
theorem d_LT_nextMoment_24 : decode b_LT_nextMoment 24 = .ok (.ifCond .lt 72, 3) := by decide +kernel
theorem d_LT_nextMoment_27 : decode b_LT_nextMoment 27 = .ok (.aload_n 0, 1) := by decide +kernel
theorem d_LT_nextMoment_28 : decode b_LT_nextMoment 28 = .ok (.getfield 45, 3) := by decide +kernel
theorem d_LT_nextMoment_31 : decode b_LT_nextMoment 31 = .ok (.iload_n 3, 1) := by decide +kernel
theorem d_LT_nextMoment_32 : decode b_LT_nextMoment 32 = .ok (.aaload, 1) := by decide +kernel
theorem d_LT_nextMoment_33 : decode b_LT_nextMoment 33 = .ok (.aload_n 0, 1) := by decide +kernel
theorem d_LT_nextMoment_34 : decode b_LT_nextMoment 34 = .ok (.getfield 56, 3) := by decide +kernel
theorem d_LT_nextMoment_37 : decode b_LT_nextMoment 37 = .ok (.invokevirtual 216, 3) := by decide +kernel
theorem d_LT_nextMoment_40 : decode b_LT_nextMoment 40 = .ok (.istore 4, 2) := by decide +kernel
theorem d_LT_nextMoment_42 : decode b_LT_nextMoment 42 = .ok (.iload 4, 2) := by decide +kernel
theorem d_LT_nextMoment_44 : decode b_LT_nextMoment 44 = .ok (.aload_n 0, 1) := by decide +kernel
theorem d_LT_nextMoment_45 : decode b_LT_nextMoment 45 = .ok (.getfield 45, 3) := by decide +kernel
theorem d_LT_nextMoment_48 : decode b_LT_nextMoment 48 = .ok (.iload_n 3, 1) := by decide +kernel
theorem d_LT_nextMoment_49 : decode b_LT_nextMoment 49 = .ok (.aaload, 1) := by decide +kernel
theorem d_LT_nextMoment_50 : decode b_LT_nextMoment 50 = .ok (.invokevirtual 233, 3) := by decide +kernel
theorem d_LT_nextMoment_53 : decode b_LT_nextMoment 53 = .ok (.if_icmp .ge 37, 3) := by decide +kernel
theorem d_LT_nextMoment_56 : decode b_LT_nextMoment 56 = .ok (.aload_n 0, 1) := by decide +kernel
theorem d_LT_nextMoment_57 : decode b_LT_nextMoment 57 = .ok (.getfield 45, 3) := by decide +kernel
theorem d_LT_nextMoment_60 : decode b_LT_nextMoment 60 = .ok (.iload_n 3, 1) := by decide +kernel
theorem d_LT_nextMoment_61 : decode b_LT_nextMoment 61 = .ok (.aaload, 1) := by decide +kernel
theorem d_LT_nextMoment_62 : decode b_LT_nextMoment 62 = .ok (.iload 4, 2) := by decide +kernel
theorem d_LT_nextMoment_64 : decode b_LT_nextMoment 64 = .ok (.aload_n 0, 1) := by decide +kernel
theorem d_LT_nextMoment_65 : decode b_LT_nextMoment 65 = .ok (.getfield 59, 3) := by decide +kernel
theorem d_LT_nextMoment_68 : decode b_LT_nextMoment 68 = .ok (.invokevirtual 220, 3) := by decide +kernel
theorem d_LT_nextMoment_71 : decode b_LT_nextMoment 71 = .ok (.aload_n 0, 1) := by decide +kernel
theorem d_LT_nextMoment_72 : decode b_LT_nextMoment 72 = .ok (.getfield 59, 3) := by decide +kernel
theorem d_LT_nextMoment_75 : decode b_LT_nextMoment 75 = .ok (.aload_n 1, 1) := by decide +kernel
theorem d_LT_nextMoment_76 : decode b_LT_nextMoment 76 = .ok (.invokevirtual 224, 3) := by decide +kernel
theorem d_LT_nextMoment_79 : decode b_LT_nextMoment 79 = .ok (.ifCond .ne 11, 3) := by decide +kernel
theorem d_LT_nextMoment_82 : decode b_LT_nextMoment 82 = .ok (.aload_n 0, 1) := by decide +kernel
theorem d_LT_nextMoment_83 : decode b_LT_nextMoment 83 = .ok (.getfield 59, 3) := by decide +kernel
theorem d_LT_nextMoment_86 : decode b_LT_nextMoment 86 = .ok (.invokevirtual 162, 3) := by decide +kernel
theorem d_LT_nextMoment_89 : decode b_LT_nextMoment 89 = .ok (.ireturn, 1) := by decide +kernel
theorem d_LT_nextMoment_90 : decode b_LT_nextMoment 90 = .ok (.iinc 3 (-1), 3) := by decide +kernel
theorem d_LT_nextMoment_93 : decode b_LT_nextMoment 93 = .ok (.goto (-70), 3) := by decide +kernel
theorem d_LT_nextMoment_96 : decode b_LT_nextMoment 96 = .ok (.sipush 1023, 3) := by decide +kernel
theorem d_LT_nextMoment_99 : decode b_LT_nextMoment 99 = .ok (.ireturn, 1) := by decide +kernel
def q_LT_nextMoment : List (Nat × j_S) := [(0, j_ld 2 0 1),
  (1, j_gf [0] 11 4),
  (4, j_ld 2 1 5),
  (5, j_cv [(8, 130)] 1),
  (8, j_ld 2 0 9),
  (9, j_gf [0] 11 12),
  (12, j_ld 2 1 13),
  (13, j_cv [(8, 137)] 0),
  (16, j_st (f_psh (.int 1)) 17),
  (17, j_st (f_ii (fun a b => a + b)) 18),
  (18, j_cv [(8, 140)] 1),
  (21, j_ld 0 2 22),
  (22, j_so 0 3 23),
  (23, j_ld 0 3 24),
  (24, j_br (f_if (fun x => decide (x < 0))) 96 27),
  (27, j_ld 2 0 28),
  (28, j_gf [0] 7 31),
  (31, j_ld 0 3 32),
  (32, j_alq 33),
  (33, j_ld 2 0 34),
  (34, j_gf [0] 11 37),
  (37, j_cv [(5, 111), (4, 111)] 1),
  (40, j_so 0 4 42),
  (42, j_ld 0 4 44),
  (44, j_ld 2 0 45),
  (45, j_gf [0] 7 48),
  (48, j_ld 0 3 49),
  (49, j_alq 50),
  (50, j_cv [(5, 69), (4, 83)] 0),
  (53, j_br (f_ic (fun x y => decide (y ≤ x))) 90 56),
  (56, j_ld 2 0 57),
  (57, j_gf [0] 7 60),
  (60, j_ld 0 3 61),
  (61, j_alq 62),
  (62, j_ld 0 4 64),
  (64, j_ld 2 0 65),
  (65, j_gf [0] 12 68),
  (68, j_cv [(5, 76), (4, 86)] 2),
  (71, j_ld 2 0 72),
  (72, j_gf [0] 12 75),
  (75, j_ld 2 1 76),
  (76, j_cv [(8, 129)] 1),
  (79, j_br (f_if (fun x => decide (¬ x = 0))) 90 82),
  (82, j_ld 2 0 83),
  (83, j_gf [0] 12 86),
  (86, j_cv [(8, 137)] 0),
  (89, j_rt 0),
  (90, j_ic 3 (-1) 93),
  (93, j_st f_id 23),
  (96, j_st (f_psh (.int 1023)) 99),
  (99, j_rt 0)]
def i_LT_nextMoment : j_I := (R_LT, b_LT_nextMoment, 5, false, (some .int), [])
def e_LT_nextMoment : j_E := ((y_LT_nextMoment, c_LT_nextMoment), i_LT_nextMoment, j_tab q_LT_nextMoment, [])
theorem o_LT_nextMoment (G : j_G) : j_mok G tm e_LT_nextMoment := ⟨by decide +kernel, Or.inl ⟨rfl, rfl⟩, rfl, (fun h => by cases h), j_tab_ok (i := i_LT_nextMoment) (l := q_LT_nextMoment) (j_all_mem ⟨r_aload_n d_LT_nextMoment_0 rfl,
  r_getfield (j_all_mem ⟨⟨_, _, _, rfl, w_LT, by decide, ⟨_, k_243, Or.inl rfl⟩⟩, trivial⟩) d_LT_nextMoment_1,
  r_aload_n d_LT_nextMoment_4 rfl,
  r_invV (j_all_mem ⟨⟨⟨_, _, _, rfl, k_458, k_436, k_437⟩, cw_Ve_copy, by decide, by decide +kernel⟩, trivial⟩) d_LT_nextMoment_5,
  r_aload_n d_LT_nextMoment_8 rfl,
  r_getfield (j_all_mem ⟨⟨_, _, _, rfl, w_LT, by decide, ⟨_, k_243, Or.inl rfl⟩⟩, trivial⟩) d_LT_nextMoment_9,
  r_aload_n d_LT_nextMoment_12 rfl,
  r_invV (j_all_mem ⟨⟨⟨_, _, _, rfl, k_459, k_393, k_394⟩, cw_Ve_moment, by decide, by decide +kernel⟩, trivial⟩) d_LT_nextMoment_13,
  r_iconst d_LT_nextMoment_16 (by decide),
  r_iadd d_LT_nextMoment_17,
  r_invV (j_all_mem ⟨⟨⟨_, _, _, rfl, k_460, k_311, k_312⟩, cw_Ve_setMoment, by decide, by decide +kernel⟩, trivial⟩) d_LT_nextMoment_18,
  r_iload_n d_LT_nextMoment_21 rfl,
  r_istore_n d_LT_nextMoment_22 rfl (by decide),
  r_iload_n d_LT_nextMoment_23 rfl,
  r_if_lt d_LT_nextMoment_24 (by decide),
  r_aload_n d_LT_nextMoment_27 rfl,
  r_getfield (j_all_mem ⟨⟨_, _, _, rfl, w_LT, by decide, ⟨_, k_239, Or.inl rfl⟩⟩, trivial⟩) d_LT_nextMoment_28,
  r_iload_n d_LT_nextMoment_31 rfl,
  r_aaload2 d_LT_nextMoment_32,
  r_aload_n d_LT_nextMoment_33 rfl,
  r_getfield (j_all_mem ⟨⟨_, _, _, rfl, w_LT, by decide, ⟨_, k_243, Or.inl rfl⟩⟩, trivial⟩) d_LT_nextMoment_34,
  r_invV (j_all_mem ⟨⟨⟨_, _, _, rfl, k_461, k_326, k_1375⟩, cw_Ru_firstNotBefore, by decide, by decide +kernel⟩, ⟨⟨_, _, _, rfl, k_461, k_326, k_1376⟩, cw_Ru_firstNotBefore, by decide, by decide +kernel⟩, trivial⟩) d_LT_nextMoment_37,
  r_istore d_LT_nextMoment_40 (by decide),
  r_iload d_LT_nextMoment_42,
  r_aload_n d_LT_nextMoment_44 rfl,
  r_getfield (j_all_mem ⟨⟨_, _, _, rfl, w_LT, by decide, ⟨_, k_239, Or.inl rfl⟩⟩, trivial⟩) d_LT_nextMoment_45,
  r_iload_n d_LT_nextMoment_48 rfl,
  r_aaload2 d_LT_nextMoment_49,
  r_invU (y0 := ⟨"LevelTables$Run", "count", "()I"⟩) (owner := "LevelTables$Run") (j_all_mem ⟨⟨⟨_, _, _, rfl, k_462, k_330, k_331, k_332⟩, cw_Lv_count, by decide, by decide +kernel⟩, ⟨⟨_, _, _, rfl, k_462, k_330, k_334, k_288⟩, cw_Me_count, by decide, by decide +kernel⟩, trivial⟩) (fun A U h hK => va_Decl.abs (hK.nw k_329)) d_LT_nextMoment_50,
  r_ic_ge d_LT_nextMoment_53 (by decide),
  r_aload_n d_LT_nextMoment_56 rfl,
  r_getfield (j_all_mem ⟨⟨_, _, _, rfl, w_LT, by decide, ⟨_, k_239, Or.inl rfl⟩⟩, trivial⟩) d_LT_nextMoment_57,
  r_iload_n d_LT_nextMoment_60 rfl,
  r_aaload2 d_LT_nextMoment_61,
  r_iload d_LT_nextMoment_62,
  r_aload_n d_LT_nextMoment_64 rfl,
  r_getfield (j_all_mem ⟨⟨_, _, _, rfl, w_LT, by decide, ⟨_, k_244, Or.inl rfl⟩⟩, trivial⟩) d_LT_nextMoment_65,
  r_invU (y0 := ⟨"LevelTables$Run", "load", "(ILLevelTables$Version;)V"⟩) (owner := "LevelTables$Run") (j_all_mem ⟨⟨⟨_, _, _, rfl, k_463, k_337, k_338, k_339⟩, cw_Lv_load, by decide, by decide +kernel⟩, ⟨⟨_, _, _, rfl, k_463, k_337, k_382, k_296⟩, cw_Me_load, by decide, by decide +kernel⟩, trivial⟩) (fun A U h hK => va_Decl.abs (hK.nw k_336)) d_LT_nextMoment_68,
  r_aload_n d_LT_nextMoment_71 rfl,
  r_getfield (j_all_mem ⟨⟨_, _, _, rfl, w_LT, by decide, ⟨_, k_244, Or.inl rfl⟩⟩, trivial⟩) d_LT_nextMoment_72,
  r_aload_n d_LT_nextMoment_75 rfl,
  r_invV (j_all_mem ⟨⟨⟨_, _, _, rfl, k_464, k_388, k_389⟩, cw_Ve_compareKey, by decide, by decide +kernel⟩, trivial⟩) d_LT_nextMoment_76,
  r_if_ne d_LT_nextMoment_79 (by decide),
  r_aload_n d_LT_nextMoment_82 rfl,
  r_getfield (j_all_mem ⟨⟨_, _, _, rfl, w_LT, by decide, ⟨_, k_244, Or.inl rfl⟩⟩, trivial⟩) d_LT_nextMoment_83,
  r_invV (j_all_mem ⟨⟨⟨_, _, _, rfl, k_459, k_393, k_394⟩, cw_Ve_moment, by decide, by decide +kernel⟩, trivial⟩) d_LT_nextMoment_86,
  r_ireturn d_LT_nextMoment_89 rfl,
  j_ok_ic d_LT_nextMoment_90 rfl (by decide) (by decide),
  r_goto d_LT_nextMoment_93 (by decide),
  r_sipush d_LT_nextMoment_96 (by decide),
  r_ireturn d_LT_nextMoment_99 rfl, trivial⟩), (fun q h => by cases h), (fun _ => rfl)⟩
theorem d_LT_open_0 : decode b_LT_open 0 = .ok (.iload_n 1, 1) := by decide +kernel
theorem d_LT_open_1 : decode b_LT_open 1 = .ok (.ifCond .lt 9, 3) := by decide +kernel
theorem d_LT_open_4 : decode b_LT_open 4 = .ok (.iload_n 1, 1) := by decide +kernel
theorem d_LT_open_5 : decode b_LT_open 5 = .ok (.bipush 8, 2) := by decide +kernel
theorem d_LT_open_7 : decode b_LT_open 7 = .ok (.if_icmp .lt 11, 3) := by decide +kernel
theorem d_LT_open_10 : decode b_LT_open 10 = .ok (.new 101, 3) := by decide +kernel
theorem d_LT_open_13 : decode b_LT_open 13 = .ok (.dup, 1) := by decide +kernel
theorem d_LT_open_14 : decode b_LT_open 14 = .ok (.invokespecial 103, 3) := by decide +kernel
theorem d_LT_open_17 : decode b_LT_open 17 = .ok (.athrow, 1) := by decide +kernel
theorem d_LT_open_18 : decode b_LT_open 18 = .ok (.aload_n 0, 1) := by decide +kernel
theorem d_LT_open_19 : decode b_LT_open 19 = .ok (.getfield 19, 3) := by decide +kernel
theorem d_LT_open_22 : decode b_LT_open 22 = .ok (.iload_n 1, 1) := by decide +kernel
theorem d_LT_open_23 : decode b_LT_open 23 = .ok (.invokevirtual 115, 3) := by decide +kernel
theorem d_LT_open_26 : decode b_LT_open 26 = .ok (.iconst (-1), 1) := by decide +kernel
theorem d_LT_open_27 : decode b_LT_open 27 = .ok (.if_icmp .eq 11, 3) := by decide +kernel
theorem d_LT_open_30 : decode b_LT_open 30 = .ok (.new 119, 3) := by decide +kernel
theorem d_LT_open_33 : decode b_LT_open 33 = .ok (.dup, 1) := by decide +kernel
theorem d_LT_open_34 : decode b_LT_open 34 = .ok (.invokespecial 121, 3) := by decide +kernel
theorem d_LT_open_37 : decode b_LT_open 37 = .ok (.athrow, 1) := by decide +kernel
theorem d_LT_open_38 : decode b_LT_open 38 = .ok (.aload_n 0, 1) := by decide +kernel
theorem d_LT_open_39 : decode b_LT_open 39 = .ok (.getfield 19, 3) := by decide +kernel
theorem d_LT_open_42 : decode b_LT_open 42 = .ok (.iload_n 1, 1) := by decide +kernel
theorem d_LT_open_43 : decode b_LT_open 43 = .ok (.invokevirtual 122, 3) := by decide +kernel
theorem d_LT_open_46 : decode b_LT_open 46 = .ok (.aload_n 0, 1) := by decide +kernel
theorem d_LT_open_47 : decode b_LT_open 47 = .ok (.getfield 19, 3) := by decide +kernel
theorem d_LT_open_50 : decode b_LT_open 50 = .ok (.invokevirtual 125, 3) := by decide +kernel
theorem d_LT_open_53 : decode b_LT_open 53 = .ok (.ireturn, 1) := by decide +kernel
def q_LT_open : List (Nat × j_S) := [(0, j_ld 0 1 1),
  (1, j_br (f_if (fun x => decide (x < 0))) 10 4),
  (4, j_ld 0 1 5),
  (5, j_st (f_psh (.int 8)) 7),
  (7, j_br (f_ic (fun x y => decide (x < y))) 18 10),
  (10, j_th 0),
  (18, j_ld 2 0 19),
  (19, j_gf [0] 3 22),
  (22, j_ld 0 1 23),
  (23, j_cv [(2, 146)] 1),
  (26, j_st (f_psh (.int (-1))) 27),
  (27, j_br (f_ic (fun x y => decide (x = y))) 38 30),
  (30, j_th 1),
  (38, j_ld 2 0 39),
  (39, j_gf [0] 3 42),
  (42, j_ld 0 1 43),
  (43, j_cv [(2, 143)] 1),
  (46, j_ld 2 0 47),
  (47, j_gf [0] 3 50),
  (50, j_cv [(2, 148)] 0),
  (53, j_rt 0)]
def i_LT_open : j_I := (R_LT, b_LT_open, 2, false, (some .int), [])
def e_LT_open : j_E := ((y_LT_open, c_LT_open), i_LT_open, j_tab q_LT_open, [])
theorem o_LT_open (G : j_G) : j_mok G tm e_LT_open := ⟨by decide +kernel, Or.inl ⟨rfl, rfl⟩, rfl, (fun h => by cases h), j_tab_ok (i := i_LT_open) (l := q_LT_open) (j_all_mem ⟨r_iload_n d_LT_open_0 rfl,
  r_if_lt d_LT_open_1 (by decide),
  r_iload_n d_LT_open_4 rfl,
  r_bipush d_LT_open_5 (by decide),
  r_ic_lt d_LT_open_7 (by decide),
  r_throw0 k_1076 k_1077 rfl d_LT_open_10 d_LT_open_13 d_LT_open_14 d_LT_open_17,
  r_aload_n d_LT_open_18 rfl,
  r_getfield (j_all_mem ⟨⟨_, _, _, rfl, w_LT, by decide, ⟨_, k_235, Or.inl rfl⟩⟩, trivial⟩) d_LT_open_19,
  r_iload_n d_LT_open_22 rfl,
  r_invV (j_all_mem ⟨⟨⟨_, _, _, rfl, k_1152, k_1153, k_1154⟩, cw_Vi_momentOf, by decide, by decide +kernel⟩, trivial⟩) d_LT_open_23,
  r_iconst d_LT_open_26 (by decide),
  r_ic_eq d_LT_open_27 (by decide),
  r_throw1 k_1111 k_1120 rfl d_LT_open_30 d_LT_open_33 d_LT_open_34 d_LT_open_37,
  r_aload_n d_LT_open_38 rfl,
  r_getfield (j_all_mem ⟨⟨_, _, _, rfl, w_LT, by decide, ⟨_, k_235, Or.inl rfl⟩⟩, trivial⟩) d_LT_open_39,
  r_iload_n d_LT_open_42 rfl,
  r_invV (j_all_mem ⟨⟨⟨_, _, _, rfl, k_1156, k_1157, k_1158⟩, cw_Vi_begin, by decide, by decide +kernel⟩, trivial⟩) d_LT_open_43,
  r_aload_n d_LT_open_46 rfl,
  r_getfield (j_all_mem ⟨⟨_, _, _, rfl, w_LT, by decide, ⟨_, k_235, Or.inl rfl⟩⟩, trivial⟩) d_LT_open_47,
  r_invV (j_all_mem ⟨⟨⟨_, _, _, rfl, k_1032, k_1033, k_1034⟩, cw_Vi_present, by decide, by decide +kernel⟩, trivial⟩) d_LT_open_50,
  r_ireturn d_LT_open_53 rfl, trivial⟩), (fun q h => by cases h), (fun _ => rfl)⟩
theorem d_LT_out_0 : decode b_LT_out 0 = .ok (.aload_n 0, 1) := by decide +kernel
theorem d_LT_out_1 : decode b_LT_out 1 = .ok (.getfield 12, 3) := by decide +kernel
theorem d_LT_out_4 : decode b_LT_out 4 = .ok (.invokevirtual 107, 3) := by decide +kernel
theorem d_LT_out_7 : decode b_LT_out 7 = .ok (.ifCond .ne 11, 3) := by decide +kernel
theorem d_LT_out_10 : decode b_LT_out 10 = .ok (.new 101, 3) := by decide +kernel
theorem d_LT_out_13 : decode b_LT_out 13 = .ok (.dup, 1) := by decide +kernel
theorem d_LT_out_14 : decode b_LT_out 14 = .ok (.invokespecial 103, 3) := by decide +kernel
theorem d_LT_out_17 : decode b_LT_out 17 = .ok (.athrow, 1) := by decide +kernel
theorem d_LT_out_18 : decode b_LT_out 18 = .ok (.aload_n 0, 1) := by decide +kernel
theorem d_LT_out_19 : decode b_LT_out 19 = .ok (.iconst 0, 1) := by decide +kernel
theorem d_LT_out_20 : decode b_LT_out 20 = .ok (.iconst 0, 1) := by decide +kernel
theorem d_LT_out_21 : decode b_LT_out 21 = .ok (.iconst 0, 1) := by decide +kernel
theorem d_LT_out_22 : decode b_LT_out 22 = .ok (.invokevirtual 111, 3) := by decide +kernel
theorem d_LT_out_25 : decode b_LT_out 25 = .ok (.ireturn, 1) := by decide +kernel
def q_LT_out : List (Nat × j_S) := [(0, j_ld 2 0 1),
  (1, j_gf [0] 2 4),
  (4, j_cv [(1, 123)] 0),
  (7, j_br (f_if (fun x => decide (¬ x = 0))) 18 10),
  (10, j_th 0),
  (18, j_ld 2 0 19),
  (19, j_st (f_psh (.int 0)) 20),
  (20, j_st (f_psh (.int 0)) 21),
  (21, j_st (f_psh (.int 0)) 22),
  (22, j_cv [(0, 33)] 3),
  (25, j_rt 0)]
def i_LT_out : j_I := (R_LT, b_LT_out, 1, false, (some .int), [])
def e_LT_out : j_E := ((y_LT_out, c_LT_out), i_LT_out, j_tab q_LT_out, [])
theorem o_LT_out (G : j_G) : j_mok G tm e_LT_out := ⟨by decide +kernel, Or.inl ⟨rfl, rfl⟩, rfl, (fun h => by cases h), j_tab_ok (i := i_LT_out) (l := q_LT_out) (j_all_mem ⟨r_aload_n d_LT_out_0 rfl,
  r_getfield (j_all_mem ⟨⟨_, _, _, rfl, w_LT, by decide, ⟨_, k_234, Or.inl rfl⟩⟩, trivial⟩) d_LT_out_1,
  r_invV (j_all_mem ⟨⟨⟨_, _, _, rfl, k_1093, k_1094, k_1095⟩, cw_Tp_hasKey, by decide, by decide +kernel⟩, trivial⟩) d_LT_out_4,
  r_if_ne d_LT_out_7 (by decide),
  r_throw0 k_1076 k_1077 rfl d_LT_out_10 d_LT_out_13 d_LT_out_14 d_LT_out_17,
  r_aload_n d_LT_out_18 rfl,
  r_iconst d_LT_out_19 (by decide),
  r_iconst d_LT_out_20 (by decide),
  r_iconst d_LT_out_21 (by decide),
  r_invV (j_all_mem ⟨⟨⟨_, _, _, rfl, k_1097, k_1099, kp_LT_addVersion⟩, cw_LT_addVersion, by decide, by decide +kernel⟩, trivial⟩) d_LT_out_22,
  r_ireturn d_LT_out_25 rfl, trivial⟩), (fun q h => by cases h), (fun _ => rfl)⟩
theorem d_LT_pushDown_0 : decode b_LT_pushDown 0 = .ok (.aload_n 0, 1) := by decide +kernel
theorem d_LT_pushDown_1 : decode b_LT_pushDown 1 = .ok (.getfield 39, 3) := by decide +kernel
theorem d_LT_pushDown_4 : decode b_LT_pushDown 4 = .ok (.iload_n 1, 1) := by decide +kernel
theorem d_LT_pushDown_5 : decode b_LT_pushDown 5 = .ok (.aaload, 1) := by decide +kernel
theorem d_LT_pushDown_6 : decode b_LT_pushDown 6 = .ok (.astore_n 2, 1) := by decide +kernel
theorem d_LT_pushDown_7 : decode b_LT_pushDown 7 = .ok (.aload_n 0, 1) := by decide +kernel
theorem d_LT_pushDown_8 : decode b_LT_pushDown 8 = .ok (.getfield 39, 3) := by decide +kernel
theorem d_LT_pushDown_11 : decode b_LT_pushDown 11 = .ok (.iload_n 1, 1) := by decide +kernel
theorem d_LT_pushDown_12 : decode b_LT_pushDown 12 = .ok (.iconst 1, 1) := by decide +kernel
theorem d_LT_pushDown_13 : decode b_LT_pushDown 13 = .ok (.iadd, 1) := by decide +kernel
theorem d_LT_pushDown_14 : decode b_LT_pushDown 14 = .ok (.aaload, 1) := by decide +kernel
theorem d_LT_pushDown_15 : decode b_LT_pushDown 15 = .ok (.astore_n 3, 1) := by decide +kernel
theorem d_LT_pushDown_16 : decode b_LT_pushDown 16 = .ok (.aload_n 2, 1) := by decide +kernel
theorem d_LT_pushDown_17 : decode b_LT_pushDown 17 = .ok (.iconst 1, 1) := by decide +kernel
theorem d_LT_pushDown_18 : decode b_LT_pushDown 18 = .ok (.invokevirtual 257, 3) := by decide +kernel
theorem d_LT_pushDown_21 : decode b_LT_pushDown 21 = .ok (.istore 4, 2) := by decide +kernel
theorem d_LT_pushDown_23 : decode b_LT_pushDown 23 = .ok (.aload_n 2, 1) := by decide +kernel
theorem d_LT_pushDown_24 : decode b_LT_pushDown 24 = .ok (.iconst 0, 1) := by decide +kernel
theorem d_LT_pushDown_25 : decode b_LT_pushDown 25 = .ok (.aload_n 0, 1) := by decide +kernel
theorem d_LT_pushDown_26 : decode b_LT_pushDown 26 = .ok (.getfield 62, 3) := by decide +kernel
theorem d_LT_pushDown_29 : decode b_LT_pushDown 29 = .ok (.invokevirtual 275, 3) := by decide +kernel
theorem d_LT_pushDown_32 : decode b_LT_pushDown 32 = .ok (.aload_n 2, 1) := by decide +kernel
theorem d_LT_pushDown_33 : decode b_LT_pushDown 33 = .ok (.iload 4, 2) := by decide +kernel
theorem d_LT_pushDown_35 : decode b_LT_pushDown 35 = .ok (.iconst 1, 1) := by decide +kernel
theorem d_LT_pushDown_36 : decode b_LT_pushDown 36 = .ok (.isub, 1) := by decide +kernel
theorem d_LT_pushDown_37 : decode b_LT_pushDown 37 = .ok (.aload_n 0, 1) := by decide +kernel
theorem d_LT_pushDown_38 : decode b_LT_pushDown 38 = .ok (.getfield 65, 3) := by decide +kernel
theorem d_LT_pushDown_41 : decode b_LT_pushDown 41 = .ok (.invokevirtual 275, 3) := by decide +kernel
theorem d_LT_pushDown_44 : decode b_LT_pushDown 44 = .ok (.aload_n 3, 1) := by decide +kernel
theorem d_LT_pushDown_45 : decode b_LT_pushDown 45 = .ok (.aload_n 0, 1) := by decide +kernel
theorem d_LT_pushDown_46 : decode b_LT_pushDown 46 = .ok (.getfield 62, 3) := by decide +kernel
theorem d_LT_pushDown_49 : decode b_LT_pushDown 49 = .ok (.invokevirtual 251, 3) := by decide +kernel
theorem d_LT_pushDown_52 : decode b_LT_pushDown 52 = .ok (.istore 5, 2) := by decide +kernel
theorem d_LT_pushDown_54 : decode b_LT_pushDown 54 = .ok (.aload_n 3, 1) := by decide +kernel
theorem d_LT_pushDown_55 : decode b_LT_pushDown 55 = .ok (.aload_n 0, 1) := by decide +kernel
theorem d_LT_pushDown_56 : decode b_LT_pushDown 56 = .ok (.getfield 65, 3) := by decide +kernel
theorem d_LT_pushDown_59 : decode b_LT_pushDown 59 = .ok (.invokevirtual 254, 3) := by decide +kernel
theorem d_LT_pushDown_62 : decode b_LT_pushDown 62 = .ok (.istore 6, 2) := by decide +kernel
theorem d_LT_pushDown_64 : decode b_LT_pushDown 64 = .ok (.aload_n 0, 1) := by decide +kernel
theorem d_LT_pushDown_65 : decode b_LT_pushDown 65 = .ok (.getfield 79, 3) := by decide +kernel
theorem d_LT_pushDown_68 : decode b_LT_pushDown 68 = .ok (.invokevirtual 230, 3) := by decide +kernel
theorem d_LT_pushDown_71 : decode b_LT_pushDown 71 = .ok (.aload_n 0, 1) := by decide +kernel
theorem d_LT_pushDown_72 : decode b_LT_pushDown 72 = .ok (.getfield 79, 3) := by decide +kernel
theorem d_LT_pushDown_75 : decode b_LT_pushDown 75 = .ok (.iload_n 1, 1) := by decide +kernel
theorem d_LT_pushDown_76 : decode b_LT_pushDown 76 = .ok (.iconst 1, 1) := by decide +kernel
theorem d_LT_pushDown_77 : decode b_LT_pushDown 77 = .ok (.iadd, 1) := by decide +kernel
theorem d_LT_pushDown_78 : decode b_LT_pushDown 78 = .ok (.iconst 0, 1) := by decide +kernel
theorem d_LT_pushDown_79 : decode b_LT_pushDown 79 = .ok (.iload 4, 2) := by decide +kernel
theorem d_LT_pushDown_81 : decode b_LT_pushDown 81 = .ok (.invokevirtual 234, 3) := by decide +kernel
theorem d_LT_pushDown_84 : decode b_LT_pushDown 84 = .ok (.aload_n 0, 1) := by decide +kernel
theorem d_LT_pushDown_85 : decode b_LT_pushDown 85 = .ok (.getfield 79, 3) := by decide +kernel
theorem d_LT_pushDown_88 : decode b_LT_pushDown 88 = .ok (.iload_n 1, 1) := by decide +kernel
theorem d_LT_pushDown_89 : decode b_LT_pushDown 89 = .ok (.iconst 2, 1) := by decide +kernel
theorem d_LT_pushDown_90 : decode b_LT_pushDown 90 = .ok (.iadd, 1) := by decide +kernel
theorem d_LT_pushDown_91 : decode b_LT_pushDown 91 = .ok (.aload_n 3, 1) := by decide +kernel
theorem d_LT_pushDown_92 : decode b_LT_pushDown 92 = .ok (.iload 5, 2) := by decide +kernel
theorem d_LT_pushDown_94 : decode b_LT_pushDown 94 = .ok (.invokevirtual 257, 3) := by decide +kernel
theorem d_LT_pushDown_97 : decode b_LT_pushDown 97 = .ok (.aload_n 3, 1) := by decide +kernel
theorem d_LT_pushDown_98 : decode b_LT_pushDown 98 = .ok (.iload 6, 2) := by decide +kernel
theorem d_LT_pushDown_100 : decode b_LT_pushDown 100 = .ok (.invokevirtual 257, 3) := by decide +kernel
theorem d_LT_pushDown_103 : decode b_LT_pushDown 103 = .ok (.invokevirtual 234, 3) := by decide +kernel
theorem d_LT_pushDown_106 : decode b_LT_pushDown 106 = .ok (.aload_n 0, 1) := by decide +kernel
theorem d_LT_pushDown_107 : decode b_LT_pushDown 107 = .ok (.iload_n 1, 1) := by decide +kernel
theorem d_LT_pushDown_108 : decode b_LT_pushDown 108 = .ok (.iconst 1, 1) := by decide +kernel
theorem d_LT_pushDown_109 : decode b_LT_pushDown 109 = .ok (.iadd, 1) := by decide +kernel
theorem d_LT_pushDown_110 : decode b_LT_pushDown 110 = .ok (.invokevirtual 260, 3) := by decide +kernel
theorem d_LT_pushDown_113 : decode b_LT_pushDown 113 = .ok (.aload_n 2, 1) := by decide +kernel
theorem d_LT_pushDown_114 : decode b_LT_pushDown 114 = .ok (.iconst 0, 1) := by decide +kernel
theorem d_LT_pushDown_115 : decode b_LT_pushDown 115 = .ok (.iconst 1, 1) := by decide +kernel
theorem d_LT_pushDown_116 : decode b_LT_pushDown 116 = .ok (.invokevirtual 263, 3) := by decide +kernel
theorem d_LT_pushDown_119 : decode b_LT_pushDown 119 = .ok (.aload_n 3, 1) := by decide +kernel
theorem d_LT_pushDown_120 : decode b_LT_pushDown 120 = .ok (.iload 5, 2) := by decide +kernel
theorem d_LT_pushDown_122 : decode b_LT_pushDown 122 = .ok (.iload 6, 2) := by decide +kernel
theorem d_LT_pushDown_124 : decode b_LT_pushDown 124 = .ok (.invokevirtual 263, 3) := by decide +kernel
theorem d_LT_pushDown_127 : decode b_LT_pushDown 127 = .ok (.aload_n 3, 1) := by decide +kernel
theorem d_LT_pushDown_128 : decode b_LT_pushDown 128 = .ok (.iload 5, 2) := by decide +kernel
theorem d_LT_pushDown_130 : decode b_LT_pushDown 130 = .ok (.aload_n 0, 1) := by decide +kernel
theorem d_LT_pushDown_131 : decode b_LT_pushDown 131 = .ok (.getfield 86, 3) := by decide +kernel
theorem d_LT_pushDown_134 : decode b_LT_pushDown 134 = .ok (.invokevirtual 267, 3) := by decide +kernel
theorem d_LT_pushDown_137 : decode b_LT_pushDown 137 = .ok (.invokevirtual 271, 3) := by decide +kernel
theorem d_LT_pushDown_140 : decode b_LT_pushDown 140 = .ok (.return_, 1) := by decide +kernel
def q_LT_pushDown : List (Nat × j_S) := [(0, j_ld 2 0 1),
  (1, j_gf [0] 6 4),
  (4, j_ld 0 1 5),
  (5, j_alq 6),
  (6, j_so 2 2 7),
  (7, j_ld 2 0 8),
  (8, j_gf [0] 6 11),
  (11, j_ld 0 1 12),
  (12, j_st (f_psh (.int 1)) 13),
  (13, j_st (f_ii (fun a b => a + b)) 14),
  (14, j_alq 15),
  (15, j_so 2 3 16),
  (16, j_ld 2 2 17),
  (17, j_st (f_psh (.int 1)) 18),
  (18, j_cv [(5, 79)] 1),
  (21, j_so 0 4 23),
  (23, j_ld 2 2 24),
  (24, j_st (f_psh (.int 0)) 25),
  (25, j_ld 2 0 26),
  (26, j_gf [0] 13 29),
  (29, j_cv [(5, 76)] 2),
  (32, j_ld 2 2 33),
  (33, j_ld 0 4 35),
  (35, j_st (f_psh (.int 1)) 36),
  (36, j_st (f_ii (fun a b => a - b)) 37),
  (37, j_ld 2 0 38),
  (38, j_gf [0] 14 41),
  (41, j_cv [(5, 76)] 2),
  (44, j_ld 2 3 45),
  (45, j_ld 2 0 46),
  (46, j_gf [0] 13 49),
  (49, j_cv [(5, 71)] 1),
  (52, j_so 0 5 54),
  (54, j_ld 2 3 55),
  (55, j_ld 2 0 56),
  (56, j_gf [0] 14 59),
  (59, j_cv [(5, 70)] 1),
  (62, j_so 0 6 64),
  (64, j_ld 2 0 65),
  (65, j_gf [0] 8 68),
  (68, j_cv [(6, 152)] 0),
  (71, j_ld 2 0 72),
  (72, j_gf [0] 8 75),
  (75, j_ld 0 1 76),
  (76, j_st (f_psh (.int 1)) 77),
  (77, j_st (f_ii (fun a b => a + b)) 78),
  (78, j_st (f_psh (.int 0)) 79),
  (79, j_ld 0 4 81),
  (81, j_cv [(6, 153)] 3),
  (84, j_ld 2 0 85),
  (85, j_gf [0] 8 88),
  (88, j_ld 0 1 89),
  (89, j_st (f_psh (.int 2)) 90),
  (90, j_st (f_ii (fun a b => a + b)) 91),
  (91, j_ld 2 3 92),
  (92, j_ld 0 5 94),
  (94, j_cv [(5, 79)] 1),
  (97, j_ld 2 3 98),
  (98, j_ld 0 6 100),
  (100, j_cv [(5, 79)] 1),
  (103, j_cv [(6, 153)] 3),
  (106, j_ld 2 0 107),
  (107, j_ld 0 1 108),
  (108, j_st (f_psh (.int 1)) 109),
  (109, j_st (f_ii (fun a b => a + b)) 110),
  (110, j_cv [(0, 57)] 1),
  (113, j_ld 2 2 114),
  (114, j_st (f_psh (.int 0)) 115),
  (115, j_st (f_psh (.int 1)) 116),
  (116, j_cv [(5, 77)] 2),
  (119, j_ld 2 3 120),
  (120, j_ld 0 5 122),
  (122, j_ld 0 6 124),
  (124, j_cv [(5, 77)] 2),
  (127, j_ld 2 3 128),
  (128, j_ld 0 5 130),
  (130, j_ld 2 0 131),
  (131, j_gf [0] 9 134),
  (134, j_cv [(7, 163)] 0),
  (137, j_cv [(5, 73)] 2),
  (140, j_rv)]
def i_LT_pushDown : j_I := (R_LT, b_LT_pushDown, 7, false, none, [])
def e_LT_pushDown : j_E := ((y_LT_pushDown, c_LT_pushDown), i_LT_pushDown, j_tab q_LT_pushDown, [])
theorem o_LT_pushDown (G : j_G) : j_mok G tm e_LT_pushDown := ⟨by decide +kernel, Or.inl ⟨rfl, rfl⟩, rfl, (fun h => by cases h), j_tab_ok (i := i_LT_pushDown) (l := q_LT_pushDown) (j_all_mem ⟨r_aload_n d_LT_pushDown_0 rfl,
  r_getfield (j_all_mem ⟨⟨_, _, _, rfl, w_LT, by decide, ⟨_, k_238, Or.inl rfl⟩⟩, trivial⟩) d_LT_pushDown_1,
  r_iload_n d_LT_pushDown_4 rfl,
  r_aaload2 d_LT_pushDown_5,
  r_astore_n d_LT_pushDown_6 rfl (by decide),
  r_aload_n d_LT_pushDown_7 rfl,
  r_getfield (j_all_mem ⟨⟨_, _, _, rfl, w_LT, by decide, ⟨_, k_238, Or.inl rfl⟩⟩, trivial⟩) d_LT_pushDown_8,
  r_iload_n d_LT_pushDown_11 rfl,
  r_iconst d_LT_pushDown_12 (by decide),
  r_iadd d_LT_pushDown_13,
  r_aaload2 d_LT_pushDown_14,
  r_astore_n d_LT_pushDown_15 rfl (by decide),
  r_aload_n d_LT_pushDown_16 rfl,
  r_iconst d_LT_pushDown_17 (by decide),
  r_invV (j_all_mem ⟨⟨⟨_, _, _, rfl, k_410, k_411, k_412⟩, cw_Lv_startOf, by decide, by decide +kernel⟩, trivial⟩) d_LT_pushDown_18,
  r_istore d_LT_pushDown_21 (by decide),
  r_aload_n d_LT_pushDown_23 rfl,
  r_iconst d_LT_pushDown_24 (by decide),
  r_aload_n d_LT_pushDown_25 rfl,
  r_getfield (j_all_mem ⟨⟨_, _, _, rfl, w_LT, by decide, ⟨_, k_245, Or.inl rfl⟩⟩, trivial⟩) d_LT_pushDown_26,
  r_invV (j_all_mem ⟨⟨⟨_, _, _, rfl, k_976, k_339, k_1386⟩, cw_Lv_load, by decide, by decide +kernel⟩, trivial⟩) d_LT_pushDown_29,
  r_aload_n d_LT_pushDown_32 rfl,
  r_iload d_LT_pushDown_33,
  r_iconst d_LT_pushDown_35 (by decide),
  r_isub d_LT_pushDown_36,
  r_aload_n d_LT_pushDown_37 rfl,
  r_getfield (j_all_mem ⟨⟨_, _, _, rfl, w_LT, by decide, ⟨_, k_246, Or.inl rfl⟩⟩, trivial⟩) d_LT_pushDown_38,
  r_invV (j_all_mem ⟨⟨⟨_, _, _, rfl, k_976, k_339, k_1386⟩, cw_Lv_load, by decide, by decide +kernel⟩, trivial⟩) d_LT_pushDown_41,
  r_aload_n d_LT_pushDown_44 rfl,
  r_aload_n d_LT_pushDown_45 rfl,
  r_getfield (j_all_mem ⟨⟨_, _, _, rfl, w_LT, by decide, ⟨_, k_245, Or.inl rfl⟩⟩, trivial⟩) d_LT_pushDown_46,
  r_invV (j_all_mem ⟨⟨⟨_, _, _, rfl, k_306, k_307, k_308⟩, cw_Lv_firstTableReaching, by decide, by decide +kernel⟩, trivial⟩) d_LT_pushDown_49,
  r_istore d_LT_pushDown_52 (by decide),
  r_aload_n d_LT_pushDown_54 rfl,
  r_aload_n d_LT_pushDown_55 rfl,
  r_getfield (j_all_mem ⟨⟨_, _, _, rfl, w_LT, by decide, ⟨_, k_246, Or.inl rfl⟩⟩, trivial⟩) d_LT_pushDown_56,
  r_invV (j_all_mem ⟨⟨⟨_, _, _, rfl, k_396, k_397, k_398⟩, cw_Lv_firstTableBeyond, by decide, by decide +kernel⟩, trivial⟩) d_LT_pushDown_59,
  r_istore d_LT_pushDown_62 (by decide),
  r_aload_n d_LT_pushDown_64 rfl,
  r_getfield (j_all_mem ⟨⟨_, _, _, rfl, w_LT, by decide, ⟨_, k_240, Or.inl rfl⟩⟩, trivial⟩) d_LT_pushDown_65,
  r_invV (j_all_mem ⟨⟨⟨_, _, _, rfl, k_400, k_401, k_402⟩, cw_Wk_clear, by decide, by decide +kernel⟩, trivial⟩) d_LT_pushDown_68,
  r_aload_n d_LT_pushDown_71 rfl,
  r_getfield (j_all_mem ⟨⟨_, _, _, rfl, w_LT, by decide, ⟨_, k_240, Or.inl rfl⟩⟩, trivial⟩) d_LT_pushDown_72,
  r_iload_n d_LT_pushDown_75 rfl,
  r_iconst d_LT_pushDown_76 (by decide),
  r_iadd d_LT_pushDown_77,
  r_iconst d_LT_pushDown_78 (by decide),
  r_iload d_LT_pushDown_79,
  r_invV (j_all_mem ⟨⟨⟨_, _, _, rfl, k_405, k_406, k_407⟩, cw_Wk_cover, by decide, by decide +kernel⟩, trivial⟩) d_LT_pushDown_81,
  r_aload_n d_LT_pushDown_84 rfl,
  r_getfield (j_all_mem ⟨⟨_, _, _, rfl, w_LT, by decide, ⟨_, k_240, Or.inl rfl⟩⟩, trivial⟩) d_LT_pushDown_85,
  r_iload_n d_LT_pushDown_88 rfl,
  r_iconst d_LT_pushDown_89 (by decide),
  r_iadd d_LT_pushDown_90,
  r_aload_n d_LT_pushDown_91 rfl,
  r_iload d_LT_pushDown_92,
  r_invV (j_all_mem ⟨⟨⟨_, _, _, rfl, k_410, k_411, k_412⟩, cw_Lv_startOf, by decide, by decide +kernel⟩, trivial⟩) d_LT_pushDown_94,
  r_aload_n d_LT_pushDown_97 rfl,
  r_iload d_LT_pushDown_98,
  r_invV (j_all_mem ⟨⟨⟨_, _, _, rfl, k_410, k_411, k_412⟩, cw_Lv_startOf, by decide, by decide +kernel⟩, trivial⟩) d_LT_pushDown_100,
  r_invV (j_all_mem ⟨⟨⟨_, _, _, rfl, k_405, k_406, k_407⟩, cw_Wk_cover, by decide, by decide +kernel⟩, trivial⟩) d_LT_pushDown_103,
  r_aload_n d_LT_pushDown_106 rfl,
  r_iload_n d_LT_pushDown_107 rfl,
  r_iconst d_LT_pushDown_108 (by decide),
  r_iadd d_LT_pushDown_109,
  r_invV (j_all_mem ⟨⟨⟨_, _, _, rfl, k_414, k_416, kp_LT_writeNeeded⟩, cw_LT_writeNeeded, by decide, by decide +kernel⟩, trivial⟩) d_LT_pushDown_110,
  r_aload_n d_LT_pushDown_113 rfl,
  r_iconst d_LT_pushDown_114 (by decide),
  r_iconst d_LT_pushDown_115 (by decide),
  r_invV (j_all_mem ⟨⟨⟨_, _, _, rfl, k_599, k_600, k_601⟩, cw_Lv_remove, by decide, by decide +kernel⟩, trivial⟩) d_LT_pushDown_116,
  r_aload_n d_LT_pushDown_119 rfl,
  r_iload d_LT_pushDown_120,
  r_iload d_LT_pushDown_122,
  r_invV (j_all_mem ⟨⟨⟨_, _, _, rfl, k_599, k_600, k_601⟩, cw_Lv_remove, by decide, by decide +kernel⟩, trivial⟩) d_LT_pushDown_124,
  r_aload_n d_LT_pushDown_127 rfl,
  r_iload d_LT_pushDown_128,
  r_aload_n d_LT_pushDown_130 rfl,
  r_getfield (j_all_mem ⟨⟨_, _, _, rfl, w_LT, by decide, ⟨_, k_241, Or.inl rfl⟩⟩, trivial⟩) d_LT_pushDown_131,
  r_invV (j_all_mem ⟨⟨⟨_, _, _, rfl, k_633, k_634, k_635⟩, cw_Wr_tables, by decide, by decide +kernel⟩, trivial⟩) d_LT_pushDown_134,
  r_invV (j_all_mem ⟨⟨⟨_, _, _, rfl, k_637, k_638, k_639⟩, cw_Lv_insert, by decide, by decide +kernel⟩, trivial⟩) d_LT_pushDown_137,
  r_return d_LT_pushDown_140 rfl, trivial⟩), (fun q h => by cases h), (fun _ => rfl)⟩
theorem d_LT_put_0 : decode b_LT_put 0 = .ok (.iload_n 1, 1) := by decide +kernel
theorem d_LT_put_1 : decode b_LT_put 1 = .ok (.ifCond .lt 24, 3) := by decide +kernel
theorem d_LT_put_4 : decode b_LT_put 4 = .ok (.iload_n 2, 1) := by decide +kernel
theorem d_LT_put_5 : decode b_LT_put 5 = .ok (.ifCond .lt 20, 3) := by decide +kernel
theorem d_LT_put_8 : decode b_LT_put 8 = .ok (.iload_n 2, 1) := by decide +kernel
theorem d_LT_put_9 : decode b_LT_put 9 = .ok (.sipush 1000, 3) := by decide +kernel
theorem d_LT_put_12 : decode b_LT_put 12 = .ok (.if_icmp .gt 13, 3) := by decide +kernel
theorem d_LT_put_15 : decode b_LT_put 15 = .ok (.aload_n 0, 1) := by decide +kernel
theorem d_LT_put_16 : decode b_LT_put 16 = .ok (.getfield 12, 3) := by decide +kernel
theorem d_LT_put_19 : decode b_LT_put 19 = .ok (.invokevirtual 107, 3) := by decide +kernel
theorem d_LT_put_22 : decode b_LT_put 22 = .ok (.ifCond .ne 11, 3) := by decide +kernel
theorem d_LT_put_25 : decode b_LT_put 25 = .ok (.new 101, 3) := by decide +kernel
theorem d_LT_put_28 : decode b_LT_put 28 = .ok (.dup, 1) := by decide +kernel
theorem d_LT_put_29 : decode b_LT_put 29 = .ok (.invokespecial 103, 3) := by decide +kernel
theorem d_LT_put_32 : decode b_LT_put 32 = .ok (.athrow, 1) := by decide +kernel
theorem d_LT_put_33 : decode b_LT_put 33 = .ok (.aload_n 0, 1) := by decide +kernel
theorem d_LT_put_34 : decode b_LT_put 34 = .ok (.iconst 1, 1) := by decide +kernel
theorem d_LT_put_35 : decode b_LT_put 35 = .ok (.iload_n 2, 1) := by decide +kernel
theorem d_LT_put_36 : decode b_LT_put 36 = .ok (.iload_n 1, 1) := by decide +kernel
theorem d_LT_put_37 : decode b_LT_put 37 = .ok (.invokevirtual 111, 3) := by decide +kernel
theorem d_LT_put_40 : decode b_LT_put 40 = .ok (.ireturn, 1) := by decide +kernel
def q_LT_put : List (Nat × j_S) := [(0, j_ld 0 1 1),
  (1, j_br (f_if (fun x => decide (x < 0))) 25 4),
  (4, j_ld 0 2 5),
  (5, j_br (f_if (fun x => decide (x < 0))) 25 8),
  (8, j_ld 0 2 9),
  (9, j_st (f_psh (.int 1000)) 12),
  (12, j_br (f_ic (fun x y => decide (y < x))) 25 15),
  (15, j_ld 2 0 16),
  (16, j_gf [0] 2 19),
  (19, j_cv [(1, 123)] 0),
  (22, j_br (f_if (fun x => decide (¬ x = 0))) 33 25),
  (25, j_th 0),
  (33, j_ld 2 0 34),
  (34, j_st (f_psh (.int 1)) 35),
  (35, j_ld 0 2 36),
  (36, j_ld 0 1 37),
  (37, j_cv [(0, 33)] 3),
  (40, j_rt 0)]
def i_LT_put : j_I := (R_LT, b_LT_put, 3, false, (some .int), [])
def e_LT_put : j_E := ((y_LT_put, c_LT_put), i_LT_put, j_tab q_LT_put, [])
theorem o_LT_put (G : j_G) : j_mok G tm e_LT_put := ⟨by decide +kernel, Or.inl ⟨rfl, rfl⟩, rfl, (fun h => by cases h), j_tab_ok (i := i_LT_put) (l := q_LT_put) (j_all_mem ⟨r_iload_n d_LT_put_0 rfl,
  r_if_lt d_LT_put_1 (by decide),
  r_iload_n d_LT_put_4 rfl,
  r_if_lt d_LT_put_5 (by decide),
  r_iload_n d_LT_put_8 rfl,
  r_sipush d_LT_put_9 (by decide),
  r_ic_gt d_LT_put_12 (by decide),
  r_aload_n d_LT_put_15 rfl,
  r_getfield (j_all_mem ⟨⟨_, _, _, rfl, w_LT, by decide, ⟨_, k_234, Or.inl rfl⟩⟩, trivial⟩) d_LT_put_16,
  r_invV (j_all_mem ⟨⟨⟨_, _, _, rfl, k_1093, k_1094, k_1095⟩, cw_Tp_hasKey, by decide, by decide +kernel⟩, trivial⟩) d_LT_put_19,
  r_if_ne d_LT_put_22 (by decide),
  r_throw0 k_1076 k_1077 rfl d_LT_put_25 d_LT_put_28 d_LT_put_29 d_LT_put_32,
  r_aload_n d_LT_put_33 rfl,
  r_iconst d_LT_put_34 (by decide),
  r_iload_n d_LT_put_35 rfl,
  r_iload_n d_LT_put_36 rfl,
  r_invV (j_all_mem ⟨⟨⟨_, _, _, rfl, k_1097, k_1099, kp_LT_addVersion⟩, cw_LT_addVersion, by decide, by decide +kernel⟩, trivial⟩) d_LT_put_37,
  r_ireturn d_LT_put_40 rfl, trivial⟩), (fun q h => by cases h), (fun _ => rfl)⟩
theorem d_LT_reachSomething_0 : decode b_LT_reachSomething 0 = .ok (.aload_n 0, 1) := by decide +kernel
theorem d_LT_reachSomething_1 : decode b_LT_reachSomething 1 = .ok (.getfield 79, 3) := by decide +kernel
theorem d_LT_reachSomething_4 : decode b_LT_reachSomething 4 = .ok (.invokevirtual 230, 3) := by decide +kernel
theorem d_LT_reachSomething_7 : decode b_LT_reachSomething 7 = .ok (.iconst 0, 1) := by decide +kernel
theorem d_LT_reachSomething_8 : decode b_LT_reachSomething 8 = .ok (.istore_n 2, 1) := by decide +kernel
theorem d_LT_reachSomething_9 : decode b_LT_reachSomething 9 = .ok (.iload_n 2, 1) := by decide +kernel
theorem d_LT_reachSomething_10 : decode b_LT_reachSomething 10 = .ok (.iconst 5, 1) := by decide +kernel
theorem d_LT_reachSomething_11 : decode b_LT_reachSomething 11 = .ok (.if_icmp .ge 39, 3) := by decide +kernel
theorem d_LT_reachSomething_14 : decode b_LT_reachSomething 14 = .ok (.aload_n 0, 1) := by decide +kernel
theorem d_LT_reachSomething_15 : decode b_LT_reachSomething 15 = .ok (.getfield 79, 3) := by decide +kernel
theorem d_LT_reachSomething_18 : decode b_LT_reachSomething 18 = .ok (.iload_n 2, 1) := by decide +kernel
theorem d_LT_reachSomething_19 : decode b_LT_reachSomething 19 = .ok (.aload_n 0, 1) := by decide +kernel
theorem d_LT_reachSomething_20 : decode b_LT_reachSomething 20 = .ok (.getfield 45, 3) := by decide +kernel
theorem d_LT_reachSomething_23 : decode b_LT_reachSomething 23 = .ok (.iload_n 2, 1) := by decide +kernel
theorem d_LT_reachSomething_24 : decode b_LT_reachSomething 24 = .ok (.aaload, 1) := by decide +kernel
theorem d_LT_reachSomething_25 : decode b_LT_reachSomething 25 = .ok (.aload_n 0, 1) := by decide +kernel
theorem d_LT_reachSomething_26 : decode b_LT_reachSomething 26 = .ok (.getfield 52, 3) := by decide +kernel
theorem d_LT_reachSomething_29 : decode b_LT_reachSomething 29 = .ok (.invokevirtual 216, 3) := by decide +kernel
theorem d_LT_reachSomething_32 : decode b_LT_reachSomething 32 = .ok (.aload_n 0, 1) := by decide +kernel
theorem d_LT_reachSomething_33 : decode b_LT_reachSomething 33 = .ok (.getfield 45, 3) := by decide +kernel
theorem d_LT_reachSomething_36 : decode b_LT_reachSomething 36 = .ok (.iload_n 2, 1) := by decide +kernel
theorem d_LT_reachSomething_37 : decode b_LT_reachSomething 37 = .ok (.aaload, 1) := by decide +kernel
theorem d_LT_reachSomething_38 : decode b_LT_reachSomething 38 = .ok (.invokevirtual 233, 3) := by decide +kernel
theorem d_LT_reachSomething_41 : decode b_LT_reachSomething 41 = .ok (.invokevirtual 234, 3) := by decide +kernel
theorem d_LT_reachSomething_44 : decode b_LT_reachSomething 44 = .ok (.iinc 2 1, 3) := by decide +kernel
theorem d_LT_reachSomething_47 : decode b_LT_reachSomething 47 = .ok (.goto (-38), 3) := by decide +kernel
theorem d_LT_reachSomething_50 : decode b_LT_reachSomething 50 = .ok (.aload_n 0, 1) := by decide +kernel
theorem d_LT_reachSomething_51 : decode b_LT_reachSomething 51 = .ok (.getfield 79, 3) := by decide +kernel
theorem d_LT_reachSomething_54 : decode b_LT_reachSomething 54 = .ok (.invokevirtual 238, 3) := by decide +kernel
theorem d_LT_reachSomething_57 : decode b_LT_reachSomething 57 = .ok (.iconst 0, 1) := by decide +kernel
theorem d_LT_reachSomething_58 : decode b_LT_reachSomething 58 = .ok (.istore_n 2, 1) := by decide +kernel
theorem d_LT_reachSomething_59 : decode b_LT_reachSomething 59 = .ok (.iload_n 2, 1) := by decide +kernel
theorem d_LT_reachSomething_60 : decode b_LT_reachSomething 60 = .ok (.sipush 500, 3) := by decide +kernel
theorem d_LT_reachSomething_63 : decode b_LT_reachSomething 63 = .ok (.if_icmp .ge 46, 3) := by decide +kernel
theorem d_LT_reachSomething_66 : decode b_LT_reachSomething 66 = .ok (.aload_n 0, 1) := by decide +kernel
theorem d_LT_reachSomething_67 : decode b_LT_reachSomething 67 = .ok (.getfield 79, 3) := by decide +kernel
theorem d_LT_reachSomething_70 : decode b_LT_reachSomething 70 = .ok (.invokevirtual 240, 3) := by decide +kernel
theorem d_LT_reachSomething_73 : decode b_LT_reachSomething 73 = .ok (.ifCond .eq 36, 3) := by decide +kernel
theorem d_LT_reachSomething_76 : decode b_LT_reachSomething 76 = .ok (.aload_n 0, 1) := by decide +kernel
theorem d_LT_reachSomething_77 : decode b_LT_reachSomething 77 = .ok (.getfield 79, 3) := by decide +kernel
theorem d_LT_reachSomething_80 : decode b_LT_reachSomething 80 = .ok (.iload_n 1, 1) := by decide +kernel
theorem d_LT_reachSomething_81 : decode b_LT_reachSomething 81 = .ok (.invokevirtual 243, 3) := by decide +kernel
theorem d_LT_reachSomething_84 : decode b_LT_reachSomething 84 = .ok (.ifCond .eq 19, 3) := by decide +kernel
theorem d_LT_reachSomething_87 : decode b_LT_reachSomething 87 = .ok (.aload_n 0, 1) := by decide +kernel
theorem d_LT_reachSomething_88 : decode b_LT_reachSomething 88 = .ok (.getfield 59, 3) := by decide +kernel
theorem d_LT_reachSomething_91 : decode b_LT_reachSomething 91 = .ok (.aload_n 0, 1) := by decide +kernel
theorem d_LT_reachSomething_92 : decode b_LT_reachSomething 92 = .ok (.getfield 79, 3) := by decide +kernel
theorem d_LT_reachSomething_95 : decode b_LT_reachSomething 95 = .ok (.invokevirtual 246, 3) := by decide +kernel
theorem d_LT_reachSomething_98 : decode b_LT_reachSomething 98 = .ok (.invokevirtual 213, 3) := by decide +kernel
theorem d_LT_reachSomething_101 : decode b_LT_reachSomething 101 = .ok (.iconst 1, 1) := by decide +kernel
theorem d_LT_reachSomething_102 : decode b_LT_reachSomething 102 = .ok (.ireturn, 1) := by decide +kernel
theorem d_LT_reachSomething_103 : decode b_LT_reachSomething 103 = .ok (.iinc 2 1, 3) := by decide +kernel
theorem d_LT_reachSomething_106 : decode b_LT_reachSomething 106 = .ok (.goto (-47), 3) := by decide +kernel
theorem d_LT_reachSomething_109 : decode b_LT_reachSomething 109 = .ok (.iconst 0, 1) := by decide +kernel
theorem d_LT_reachSomething_110 : decode b_LT_reachSomething 110 = .ok (.ireturn, 1) := by decide +kernel
def q_LT_reachSomething : List (Nat × j_S) := [(0, j_ld 2 0 1),
  (1, j_gf [0] 8 4),
  (4, j_cv [(6, 152)] 0),
  (7, j_st (f_psh (.int 0)) 8),
  (8, j_so 0 2 9),
  (9, j_ld 0 2 10),
  (10, j_st (f_psh (.int 5)) 11),
  (11, j_br (f_ic (fun x y => decide (y ≤ x))) 50 14),
  (14, j_ld 2 0 15),
  (15, j_gf [0] 8 18),
  (18, j_ld 0 2 19),
  (19, j_ld 2 0 20),
  (20, j_gf [0] 7 23),
  (23, j_ld 0 2 24),
  (24, j_alq 25),
  (25, j_ld 2 0 26),
  (26, j_gf [0] 10 29),
  (29, j_cv [(5, 111), (4, 111)] 1),
  (32, j_ld 2 0 33),
  (33, j_gf [0] 7 36),
  (36, j_ld 0 2 37),
  (37, j_alq 38),
  (38, j_cv [(5, 69), (4, 83)] 0),
  (41, j_cv [(6, 153)] 3),
  (44, j_ic 2 1 47),
  (47, j_st f_id 9),
  (50, j_ld 2 0 51),
  (51, j_gf [0] 8 54),
  (54, j_cv [(6, 151)] 0),
  (57, j_st (f_psh (.int 0)) 58),
  (58, j_so 0 2 59),
  (59, j_ld 0 2 60),
  (60, j_st (f_psh (.int 500)) 63),
  (63, j_br (f_ic (fun x y => decide (y ≤ x))) 109 66),
  (66, j_ld 2 0 67),
  (67, j_gf [0] 8 70),
  (70, j_cv [(6, 150)] 0),
  (73, j_br (f_if (fun x => decide (x = 0))) 109 76),
  (76, j_ld 2 0 77),
  (77, j_gf [0] 8 80),
  (80, j_ld 0 1 81),
  (81, j_cv [(6, 155)] 1),
  (84, j_br (f_if (fun x => decide (x = 0))) 103 87),
  (87, j_ld 2 0 88),
  (88, j_gf [0] 12 91),
  (91, j_ld 2 0 92),
  (92, j_gf [0] 8 95),
  (95, j_cv [(6, 158)] 0),
  (98, j_cv [(8, 130)] 1),
  (101, j_st (f_psh (.int 1)) 102),
  (102, j_rt 3),
  (103, j_ic 2 1 106),
  (106, j_st f_id 59),
  (109, j_st (f_psh (.int 0)) 110),
  (110, j_rt 3)]
def i_LT_reachSomething : j_I := (R_LT, b_LT_reachSomething, 3, false, (some .boolean), [])
def e_LT_reachSomething : j_E := ((y_LT_reachSomething, c_LT_reachSomething), i_LT_reachSomething, j_tab q_LT_reachSomething, [])
theorem o_LT_reachSomething (G : j_G) : j_mok G tm e_LT_reachSomething := ⟨by decide +kernel, Or.inl ⟨rfl, rfl⟩, rfl, (fun h => by cases h), j_tab_ok (i := i_LT_reachSomething) (l := q_LT_reachSomething) (j_all_mem ⟨r_aload_n d_LT_reachSomething_0 rfl,
  r_getfield (j_all_mem ⟨⟨_, _, _, rfl, w_LT, by decide, ⟨_, k_240, Or.inl rfl⟩⟩, trivial⟩) d_LT_reachSomething_1,
  r_invV (j_all_mem ⟨⟨⟨_, _, _, rfl, k_400, k_401, k_402⟩, cw_Wk_clear, by decide, by decide +kernel⟩, trivial⟩) d_LT_reachSomething_4,
  r_iconst d_LT_reachSomething_7 (by decide),
  r_istore_n d_LT_reachSomething_8 rfl (by decide),
  r_iload_n d_LT_reachSomething_9 rfl,
  r_iconst d_LT_reachSomething_10 (by decide),
  r_ic_ge d_LT_reachSomething_11 (by decide),
  r_aload_n d_LT_reachSomething_14 rfl,
  r_getfield (j_all_mem ⟨⟨_, _, _, rfl, w_LT, by decide, ⟨_, k_240, Or.inl rfl⟩⟩, trivial⟩) d_LT_reachSomething_15,
  r_iload_n d_LT_reachSomething_18 rfl,
  r_aload_n d_LT_reachSomething_19 rfl,
  r_getfield (j_all_mem ⟨⟨_, _, _, rfl, w_LT, by decide, ⟨_, k_239, Or.inl rfl⟩⟩, trivial⟩) d_LT_reachSomething_20,
  r_iload_n d_LT_reachSomething_23 rfl,
  r_aaload2 d_LT_reachSomething_24,
  r_aload_n d_LT_reachSomething_25 rfl,
  r_getfield (j_all_mem ⟨⟨_, _, _, rfl, w_LT, by decide, ⟨_, k_242, Or.inl rfl⟩⟩, trivial⟩) d_LT_reachSomething_26,
  r_invV (j_all_mem ⟨⟨⟨_, _, _, rfl, k_461, k_326, k_1375⟩, cw_Ru_firstNotBefore, by decide, by decide +kernel⟩, ⟨⟨_, _, _, rfl, k_461, k_326, k_1376⟩, cw_Ru_firstNotBefore, by decide, by decide +kernel⟩, trivial⟩) d_LT_reachSomething_29,
  r_aload_n d_LT_reachSomething_32 rfl,
  r_getfield (j_all_mem ⟨⟨_, _, _, rfl, w_LT, by decide, ⟨_, k_239, Or.inl rfl⟩⟩, trivial⟩) d_LT_reachSomething_33,
  r_iload_n d_LT_reachSomething_36 rfl,
  r_aaload2 d_LT_reachSomething_37,
  r_invU (y0 := ⟨"LevelTables$Run", "count", "()I"⟩) (owner := "LevelTables$Run") (j_all_mem ⟨⟨⟨_, _, _, rfl, k_462, k_330, k_331, k_332⟩, cw_Lv_count, by decide, by decide +kernel⟩, ⟨⟨_, _, _, rfl, k_462, k_330, k_334, k_288⟩, cw_Me_count, by decide, by decide +kernel⟩, trivial⟩) (fun A U h hK => va_Decl.abs (hK.nw k_329)) d_LT_reachSomething_38,
  r_invV (j_all_mem ⟨⟨⟨_, _, _, rfl, k_405, k_406, k_407⟩, cw_Wk_cover, by decide, by decide +kernel⟩, trivial⟩) d_LT_reachSomething_41,
  j_ok_ic d_LT_reachSomething_44 rfl (by decide) (by decide),
  r_goto d_LT_reachSomething_47 (by decide),
  r_aload_n d_LT_reachSomething_50 rfl,
  r_getfield (j_all_mem ⟨⟨_, _, _, rfl, w_LT, by decide, ⟨_, k_240, Or.inl rfl⟩⟩, trivial⟩) d_LT_reachSomething_51,
  r_invV (j_all_mem ⟨⟨⟨_, _, _, rfl, k_426, k_427, k_428⟩, cw_Wk_begin, by decide, by decide +kernel⟩, trivial⟩) d_LT_reachSomething_54,
  r_iconst d_LT_reachSomething_57 (by decide),
  r_istore_n d_LT_reachSomething_58 rfl (by decide),
  r_iload_n d_LT_reachSomething_59 rfl,
  r_sipush d_LT_reachSomething_60 (by decide),
  r_ic_ge d_LT_reachSomething_63 (by decide),
  r_aload_n d_LT_reachSomething_66 rfl,
  r_getfield (j_all_mem ⟨⟨_, _, _, rfl, w_LT, by decide, ⟨_, k_240, Or.inl rfl⟩⟩, trivial⟩) d_LT_reachSomething_67,
  r_invV (j_all_mem ⟨⟨⟨_, _, _, rfl, k_440, k_441, k_442⟩, cw_Wk_advance, by decide, by decide +kernel⟩, trivial⟩) d_LT_reachSomething_70,
  r_if_eq d_LT_reachSomething_73 (by decide),
  r_aload_n d_LT_reachSomething_76 rfl,
  r_getfield (j_all_mem ⟨⟨_, _, _, rfl, w_LT, by decide, ⟨_, k_240, Or.inl rfl⟩⟩, trivial⟩) d_LT_reachSomething_77,
  r_iload_n d_LT_reachSomething_80 rfl,
  r_invV (j_all_mem ⟨⟨⟨_, _, _, rfl, k_1036, k_1037, k_1038⟩, cw_Wk_isSomethingAt, by decide, by decide +kernel⟩, trivial⟩) d_LT_reachSomething_81,
  r_if_eq d_LT_reachSomething_84 (by decide),
  r_aload_n d_LT_reachSomething_87 rfl,
  r_getfield (j_all_mem ⟨⟨_, _, _, rfl, w_LT, by decide, ⟨_, k_244, Or.inl rfl⟩⟩, trivial⟩) d_LT_reachSomething_88,
  r_aload_n d_LT_reachSomething_91 rfl,
  r_getfield (j_all_mem ⟨⟨_, _, _, rfl, w_LT, by decide, ⟨_, k_240, Or.inl rfl⟩⟩, trivial⟩) d_LT_reachSomething_92,
  r_invV (j_all_mem ⟨⟨⟨_, _, _, rfl, k_446, k_447, k_448⟩, cw_Wk_version, by decide, by decide +kernel⟩, trivial⟩) d_LT_reachSomething_95,
  r_invV (j_all_mem ⟨⟨⟨_, _, _, rfl, k_458, k_436, k_437⟩, cw_Ve_copy, by decide, by decide +kernel⟩, trivial⟩) d_LT_reachSomething_98,
  r_iconst d_LT_reachSomething_101 (by decide),
  r_zreturn d_LT_reachSomething_102 rfl,
  j_ok_ic d_LT_reachSomething_103 rfl (by decide) (by decide),
  r_goto d_LT_reachSomething_106 (by decide),
  r_iconst d_LT_reachSomething_109 (by decide),
  r_zreturn d_LT_reachSomething_110 rfl, trivial⟩), (fun q h => by cases h), (fun _ => rfl)⟩
theorem d_LT_readTapeFor_0 : decode b_LT_readTapeFor 0 = .ok (.aload_n 0, 1) := by decide +kernel
theorem d_LT_readTapeFor_1 : decode b_LT_readTapeFor 1 = .ok (.getfield 12, 3) := by decide +kernel
theorem d_LT_readTapeFor_4 : decode b_LT_readTapeFor 4 = .ok (.aload_n 0, 1) := by decide +kernel
theorem d_LT_readTapeFor_5 : decode b_LT_readTapeFor 5 = .ok (.getfield 52, 3) := by decide +kernel
theorem d_LT_readTapeFor_8 : decode b_LT_readTapeFor 8 = .ok (.invokevirtual 199, 3) := by decide +kernel
theorem d_LT_readTapeFor_11 : decode b_LT_readTapeFor 11 = .ok (.aload_n 0, 1) := by decide +kernel
theorem d_LT_readTapeFor_12 : decode b_LT_readTapeFor 12 = .ok (.getfield 19, 3) := by decide +kernel
theorem d_LT_readTapeFor_15 : decode b_LT_readTapeFor 15 = .ok (.iload_n 1, 1) := by decide +kernel
theorem d_LT_readTapeFor_16 : decode b_LT_readTapeFor 16 = .ok (.invokevirtual 115, 3) := by decide +kernel
theorem d_LT_readTapeFor_19 : decode b_LT_readTapeFor 19 = .ok (.istore_n 2, 1) := by decide +kernel
theorem d_LT_readTapeFor_20 : decode b_LT_readTapeFor 20 = .ok (.iload_n 2, 1) := by decide +kernel
theorem d_LT_readTapeFor_21 : decode b_LT_readTapeFor 21 = .ok (.iconst (-1), 1) := by decide +kernel
theorem d_LT_readTapeFor_22 : decode b_LT_readTapeFor 22 = .ok (.if_icmp .ne 11, 3) := by decide +kernel
theorem d_LT_readTapeFor_25 : decode b_LT_readTapeFor 25 = .ok (.new 119, 3) := by decide +kernel
theorem d_LT_readTapeFor_28 : decode b_LT_readTapeFor 28 = .ok (.dup, 1) := by decide +kernel
theorem d_LT_readTapeFor_29 : decode b_LT_readTapeFor 29 = .ok (.invokespecial 121, 3) := by decide +kernel
theorem d_LT_readTapeFor_32 : decode b_LT_readTapeFor 32 = .ok (.athrow, 1) := by decide +kernel
theorem d_LT_readTapeFor_33 : decode b_LT_readTapeFor 33 = .ok (.iload_n 2, 1) := by decide +kernel
theorem d_LT_readTapeFor_34 : decode b_LT_readTapeFor 34 = .ok (.ireturn, 1) := by decide +kernel
def q_LT_readTapeFor : List (Nat × j_S) := [(0, j_ld 2 0 1),
  (1, j_gf [0] 2 4),
  (4, j_ld 2 0 5),
  (5, j_gf [0] 10 8),
  (8, j_cv [(1, 126)] 1),
  (11, j_ld 2 0 12),
  (12, j_gf [0] 3 15),
  (15, j_ld 0 1 16),
  (16, j_cv [(2, 146)] 1),
  (19, j_so 0 2 20),
  (20, j_ld 0 2 21),
  (21, j_st (f_psh (.int (-1))) 22),
  (22, j_br (f_ic (fun x y => decide (¬ x = y))) 33 25),
  (25, j_th 1),
  (33, j_ld 0 2 34),
  (34, j_rt 0)]
def i_LT_readTapeFor : j_I := (R_LT, b_LT_readTapeFor, 3, false, (some .int), [])
def e_LT_readTapeFor : j_E := ((y_LT_readTapeFor, c_LT_readTapeFor), i_LT_readTapeFor, j_tab q_LT_readTapeFor, [])
theorem o_LT_readTapeFor (G : j_G) : j_mok G tm e_LT_readTapeFor := ⟨by decide +kernel, Or.inl ⟨rfl, rfl⟩, rfl, (fun h => by cases h), j_tab_ok (i := i_LT_readTapeFor) (l := q_LT_readTapeFor) (j_all_mem ⟨r_aload_n d_LT_readTapeFor_0 rfl,
  r_getfield (j_all_mem ⟨⟨_, _, _, rfl, w_LT, by decide, ⟨_, k_234, Or.inl rfl⟩⟩, trivial⟩) d_LT_readTapeFor_1,
  r_aload_n d_LT_readTapeFor_4 rfl,
  r_getfield (j_all_mem ⟨⟨_, _, _, rfl, w_LT, by decide, ⟨_, k_242, Or.inl rfl⟩⟩, trivial⟩) d_LT_readTapeFor_5,
  r_invV (j_all_mem ⟨⟨⟨_, _, _, rfl, k_1101, k_1102, k_1103⟩, cw_Tp_moveTo, by decide, by decide +kernel⟩, trivial⟩) d_LT_readTapeFor_8,
  r_aload_n d_LT_readTapeFor_11 rfl,
  r_getfield (j_all_mem ⟨⟨_, _, _, rfl, w_LT, by decide, ⟨_, k_235, Or.inl rfl⟩⟩, trivial⟩) d_LT_readTapeFor_12,
  r_iload_n d_LT_readTapeFor_15 rfl,
  r_invV (j_all_mem ⟨⟨⟨_, _, _, rfl, k_1152, k_1153, k_1154⟩, cw_Vi_momentOf, by decide, by decide +kernel⟩, trivial⟩) d_LT_readTapeFor_16,
  r_istore_n d_LT_readTapeFor_19 rfl (by decide),
  r_iload_n d_LT_readTapeFor_20 rfl,
  r_iconst d_LT_readTapeFor_21 (by decide),
  r_ic_ne d_LT_readTapeFor_22 (by decide),
  r_throw1 k_1111 k_1120 rfl d_LT_readTapeFor_25 d_LT_readTapeFor_28 d_LT_readTapeFor_29 d_LT_readTapeFor_32,
  r_iload_n d_LT_readTapeFor_33 rfl,
  r_ireturn d_LT_readTapeFor_34 rfl, trivial⟩), (fun q h => by cases h), (fun _ => rfl)⟩
theorem d_LT_seek_0 : decode b_LT_seek 0 = .ok (.iload_n 1, 1) := by decide +kernel
theorem d_LT_seek_1 : decode b_LT_seek 1 = .ok (.iconst (-1), 1) := by decide +kernel
theorem d_LT_seek_2 : decode b_LT_seek 2 = .ok (.if_icmp .lt 21, 3) := by decide +kernel
theorem d_LT_seek_5 : decode b_LT_seek 5 = .ok (.iload_n 1, 1) := by decide +kernel
theorem d_LT_seek_6 : decode b_LT_seek 6 = .ok (.bipush 8, 2) := by decide +kernel
theorem d_LT_seek_8 : decode b_LT_seek 8 = .ok (.if_icmp .ge 15, 3) := by decide +kernel
theorem d_LT_seek_11 : decode b_LT_seek 11 = .ok (.aload_n 0, 1) := by decide +kernel
theorem d_LT_seek_12 : decode b_LT_seek 12 = .ok (.getfield 12, 3) := by decide +kernel
theorem d_LT_seek_15 : decode b_LT_seek 15 = .ok (.invokevirtual 90, 3) := by decide +kernel
theorem d_LT_seek_18 : decode b_LT_seek 18 = .ok (.bipush 40, 2) := by decide +kernel
theorem d_LT_seek_20 : decode b_LT_seek 20 = .ok (.if_icmp .le 11, 3) := by decide +kernel
theorem d_LT_seek_23 : decode b_LT_seek 23 = .ok (.new 101, 3) := by decide +kernel
theorem d_LT_seek_26 : decode b_LT_seek 26 = .ok (.dup, 1) := by decide +kernel
theorem d_LT_seek_27 : decode b_LT_seek 27 = .ok (.invokespecial 103, 3) := by decide +kernel
theorem d_LT_seek_30 : decode b_LT_seek 30 = .ok (.athrow, 1) := by decide +kernel
theorem d_LT_seek_31 : decode b_LT_seek 31 = .ok (.aload_n 0, 1) := by decide +kernel
theorem d_LT_seek_32 : decode b_LT_seek 32 = .ok (.iload_n 1, 1) := by decide +kernel
theorem d_LT_seek_33 : decode b_LT_seek 33 = .ok (.invokevirtual 131, 3) := by decide +kernel
theorem d_LT_seek_36 : decode b_LT_seek 36 = .ok (.istore_n 3, 1) := by decide +kernel
theorem d_LT_seek_37 : decode b_LT_seek 37 = .ok (.aload_n 0, 1) := by decide +kernel
theorem d_LT_seek_38 : decode b_LT_seek 38 = .ok (.getfield 52, 3) := by decide +kernel
theorem d_LT_seek_41 : decode b_LT_seek 41 = .ok (.iload_n 2, 1) := by decide +kernel
theorem d_LT_seek_42 : decode b_LT_seek 42 = .ok (.ifCond .eq 9, 3) := by decide +kernel
theorem d_LT_seek_45 : decode b_LT_seek 45 = .ok (.sipush 1023, 3) := by decide +kernel
theorem d_LT_seek_48 : decode b_LT_seek 48 = .ok (.goto 4, 3) := by decide +kernel
theorem d_LT_seek_51 : decode b_LT_seek 51 = .ok (.iconst 0, 1) := by decide +kernel
theorem d_LT_seek_52 : decode b_LT_seek 52 = .ok (.invokevirtual 142, 3) := by decide +kernel
theorem d_LT_seek_55 : decode b_LT_seek 55 = .ok (.aload_n 0, 1) := by decide +kernel
theorem d_LT_seek_56 : decode b_LT_seek 56 = .ok (.aload_n 0, 1) := by decide +kernel
theorem d_LT_seek_57 : decode b_LT_seek 57 = .ok (.iload_n 3, 1) := by decide +kernel
theorem d_LT_seek_58 : decode b_LT_seek 58 = .ok (.invokevirtual 145, 3) := by decide +kernel
theorem d_LT_seek_61 : decode b_LT_seek 61 = .ok (.invokevirtual 138, 3) := by decide +kernel
theorem d_LT_seek_64 : decode b_LT_seek 64 = .ok (.ireturn, 1) := by decide +kernel
def q_LT_seek : List (Nat × j_S) := [(0, j_ld 0 1 1),
  (1, j_st (f_psh (.int (-1))) 2),
  (2, j_br (f_ic (fun x y => decide (x < y))) 23 5),
  (5, j_ld 0 1 6),
  (6, j_st (f_psh (.int 8)) 8),
  (8, j_br (f_ic (fun x y => decide (y ≤ x))) 23 11),
  (11, j_ld 2 0 12),
  (12, j_gf [0] 2 15),
  (15, j_cv [(1, 125)] 0),
  (18, j_st (f_psh (.int 40)) 20),
  (20, j_br (f_ic (fun x y => decide (x ≤ y))) 31 23),
  (23, j_th 0),
  (31, j_ld 2 0 32),
  (32, j_ld 0 1 33),
  (33, j_cv [(0, 53)] 1),
  (36, j_so 0 3 37),
  (37, j_ld 2 0 38),
  (38, j_gf [0] 10 41),
  (41, j_ld 0 2 42),
  (42, j_br (f_if (fun x => decide (x = 0))) 51 45),
  (45, j_st (f_psh (.int 1023)) 48),
  (48, j_st f_id 52),
  (51, j_st (f_psh (.int 0)) 52),
  (52, j_cv [(8, 140)] 1),
  (55, j_ld 2 0 56),
  (56, j_ld 2 0 57),
  (57, j_ld 0 3 58),
  (58, j_cv [(0, 52)] 1),
  (61, j_cv [(0, 55)] 1),
  (64, j_rt 0)]
def i_LT_seek : j_I := (R_LT, b_LT_seek, 4, false, (some .int), [])
def e_LT_seek : j_E := ((y_LT_seek, c_LT_seek), i_LT_seek, j_tab q_LT_seek, [])
theorem o_LT_seek (G : j_G) : j_mok G tm e_LT_seek := ⟨by decide +kernel, Or.inl ⟨rfl, rfl⟩, rfl, (fun h => by cases h), j_tab_ok (i := i_LT_seek) (l := q_LT_seek) (j_all_mem ⟨r_iload_n d_LT_seek_0 rfl,
  r_iconst d_LT_seek_1 (by decide),
  r_ic_lt d_LT_seek_2 (by decide),
  r_iload_n d_LT_seek_5 rfl,
  r_bipush d_LT_seek_6 (by decide),
  r_ic_ge d_LT_seek_8 (by decide),
  r_aload_n d_LT_seek_11 rfl,
  r_getfield (j_all_mem ⟨⟨_, _, _, rfl, w_LT, by decide, ⟨_, k_234, Or.inl rfl⟩⟩, trivial⟩) d_LT_seek_12,
  r_invV (j_all_mem ⟨⟨⟨_, _, _, rfl, k_1049, k_1050, k_1051⟩, cw_Tp_length, by decide, by decide +kernel⟩, trivial⟩) d_LT_seek_15,
  r_bipush d_LT_seek_18 (by decide),
  r_ic_le d_LT_seek_20 (by decide),
  r_throw0 k_1076 k_1077 rfl d_LT_seek_23 d_LT_seek_26 d_LT_seek_27 d_LT_seek_30,
  r_aload_n d_LT_seek_31 rfl,
  r_iload_n d_LT_seek_32 rfl,
  r_invV (j_all_mem ⟨⟨⟨_, _, _, rfl, k_1179, k_1181, kp_LT_readTapeFor⟩, cw_LT_readTapeFor, by decide, by decide +kernel⟩, trivial⟩) d_LT_seek_33,
  r_istore_n d_LT_seek_36 rfl (by decide),
  r_aload_n d_LT_seek_37 rfl,
  r_getfield (j_all_mem ⟨⟨_, _, _, rfl, w_LT, by decide, ⟨_, k_242, Or.inl rfl⟩⟩, trivial⟩) d_LT_seek_38,
  r_iload_n d_LT_seek_41 rfl,
  r_if_eq d_LT_seek_42 (by decide),
  r_sipush d_LT_seek_45 (by decide),
  r_goto d_LT_seek_48 (by decide),
  r_iconst d_LT_seek_51 (by decide),
  r_invV (j_all_mem ⟨⟨⟨_, _, _, rfl, k_460, k_311, k_312⟩, cw_Ve_setMoment, by decide, by decide +kernel⟩, trivial⟩) d_LT_seek_52,
  r_aload_n d_LT_seek_55 rfl,
  r_aload_n d_LT_seek_56 rfl,
  r_iload_n d_LT_seek_57 rfl,
  r_invV (j_all_mem ⟨⟨⟨_, _, _, rfl, k_1214, k_1216, kp_LT_reachSomething⟩, cw_LT_reachSomething, by decide, by decide +kernel⟩, trivial⟩) d_LT_seek_58,
  r_invV (j_all_mem ⟨⟨⟨_, _, _, rfl, k_1183, k_1185, kp_LT_show⟩, cw_LT_show, by decide, by decide +kernel⟩, trivial⟩) d_LT_seek_61,
  r_ireturn d_LT_seek_64 rfl, trivial⟩), (fun q h => by cases h), (fun _ => rfl)⟩
theorem d_LT_show_0 : decode b_LT_show 0 = .ok (.aload_n 0, 1) := by decide +kernel
theorem d_LT_show_1 : decode b_LT_show 1 = .ok (.iload_n 1, 1) := by decide +kernel
theorem d_LT_show_2 : decode b_LT_show 2 = .ok (.putfield 149, 3) := by decide +kernel
theorem d_LT_show_5 : decode b_LT_show 5 = .ok (.iload_n 1, 1) := by decide +kernel
theorem d_LT_show_6 : decode b_LT_show 6 = .ok (.ifCond .ne 11, 3) := by decide +kernel
theorem d_LT_show_9 : decode b_LT_show 9 = .ok (.new 153, 3) := by decide +kernel
theorem d_LT_show_12 : decode b_LT_show 12 = .ok (.dup, 1) := by decide +kernel
theorem d_LT_show_13 : decode b_LT_show 13 = .ok (.invokespecial 155, 3) := by decide +kernel
theorem d_LT_show_16 : decode b_LT_show 16 = .ok (.athrow, 1) := by decide +kernel
theorem d_LT_show_17 : decode b_LT_show 17 = .ok (.aload_n 0, 1) := by decide +kernel
theorem d_LT_show_18 : decode b_LT_show 18 = .ok (.getfield 68, 3) := by decide +kernel
theorem d_LT_show_21 : decode b_LT_show 21 = .ok (.aload_n 0, 1) := by decide +kernel
theorem d_LT_show_22 : decode b_LT_show 22 = .ok (.getfield 59, 3) := by decide +kernel
theorem d_LT_show_25 : decode b_LT_show 25 = .ok (.invokevirtual 213, 3) := by decide +kernel
theorem d_LT_show_28 : decode b_LT_show 28 = .ok (.aload_n 0, 1) := by decide +kernel
theorem d_LT_show_29 : decode b_LT_show 29 = .ok (.getfield 68, 3) := by decide +kernel
theorem d_LT_show_32 : decode b_LT_show 32 = .ok (.invokevirtual 156, 3) := by decide +kernel
theorem d_LT_show_35 : decode b_LT_show 35 = .ok (.ireturn, 1) := by decide +kernel
def q_LT_show : List (Nat × j_S) := [(0, j_ld 2 0 1),
  (1, j_ld 0 1 2),
  (2, j_pf [0] 0 3 5),
  (5, j_ld 0 1 6),
  (6, j_br (f_if (fun x => decide (¬ x = 0))) 17 9),
  (9, j_th 3),
  (17, j_ld 2 0 18),
  (18, j_gf [0] 15 21),
  (21, j_ld 2 0 22),
  (22, j_gf [0] 12 25),
  (25, j_cv [(8, 130)] 1),
  (28, j_ld 2 0 29),
  (29, j_gf [0] 15 32),
  (32, j_cv [(8, 138)] 0),
  (35, j_rt 0)]
def i_LT_show : j_I := (R_LT, b_LT_show, 2, false, (some .int), [])
def e_LT_show : j_E := ((y_LT_show, c_LT_show), i_LT_show, j_tab q_LT_show, [])
theorem o_LT_show (G : j_G) : j_mok G tm e_LT_show := ⟨by decide +kernel, Or.inl ⟨rfl, rfl⟩, rfl, (fun h => by cases h), j_tab_ok (i := i_LT_show) (l := q_LT_show) (j_all_mem ⟨r_aload_n d_LT_show_0 rfl,
  r_iload_n d_LT_show_1 rfl,
  r_putfield (fin := false) (j_all_mem ⟨⟨_, _, _, t_LT, _, rfl, w_LT, t_LT_ok, n_LT, by decide, rfl, t_LT_ok 0 (by decide), Or.inr (Or.inr (Or.inr ⟨rfl, rfl⟩)), ⟨_, k_248, Or.inl rfl⟩, (fun h => by cases h)⟩, trivial⟩) (fun h => by cases h) d_LT_show_2,
  r_iload_n d_LT_show_5 rfl,
  r_if_ne d_LT_show_6 (by decide),
  r_throw3 k_1187 k_1196 rfl d_LT_show_9 d_LT_show_12 d_LT_show_13 d_LT_show_16,
  r_aload_n d_LT_show_17 rfl,
  r_getfield (j_all_mem ⟨⟨_, _, _, rfl, w_LT, by decide, ⟨_, k_247, Or.inl rfl⟩⟩, trivial⟩) d_LT_show_18,
  r_aload_n d_LT_show_21 rfl,
  r_getfield (j_all_mem ⟨⟨_, _, _, rfl, w_LT, by decide, ⟨_, k_244, Or.inl rfl⟩⟩, trivial⟩) d_LT_show_22,
  r_invV (j_all_mem ⟨⟨⟨_, _, _, rfl, k_458, k_436, k_437⟩, cw_Ve_copy, by decide, by decide +kernel⟩, trivial⟩) d_LT_show_25,
  r_aload_n d_LT_show_28 rfl,
  r_getfield (j_all_mem ⟨⟨_, _, _, rfl, w_LT, by decide, ⟨_, k_247, Or.inl rfl⟩⟩, trivial⟩) d_LT_show_29,
  r_invV (j_all_mem ⟨⟨⟨_, _, _, rfl, k_1202, k_1203, k_1204⟩, cw_Ve_place, by decide, by decide +kernel⟩, trivial⟩) d_LT_show_32,
  r_ireturn d_LT_show_35 rfl, trivial⟩), (fun q h => by cases h), (fun _ => rfl)⟩
theorem d_LT_word_0 : decode b_LT_word 0 = .ok (.aload_n 0, 1) := by decide +kernel
theorem d_LT_word_1 : decode b_LT_word 1 = .ok (.getfield 149, 3) := by decide +kernel
theorem d_LT_word_4 : decode b_LT_word 4 = .ok (.ifCond .ne 11, 3) := by decide +kernel
theorem d_LT_word_7 : decode b_LT_word 7 = .ok (.new 153, 3) := by decide +kernel
theorem d_LT_word_10 : decode b_LT_word 10 = .ok (.dup, 1) := by decide +kernel
theorem d_LT_word_11 : decode b_LT_word 11 = .ok (.invokespecial 155, 3) := by decide +kernel
theorem d_LT_word_14 : decode b_LT_word 14 = .ok (.athrow, 1) := by decide +kernel
theorem d_LT_word_15 : decode b_LT_word 15 = .ok (.iload_n 1, 1) := by decide +kernel
theorem d_LT_word_16 : decode b_LT_word 16 = .ok (.ifCond .lt 14, 3) := by decide +kernel
theorem d_LT_word_19 : decode b_LT_word 19 = .ok (.iload_n 1, 1) := by decide +kernel
theorem d_LT_word_20 : decode b_LT_word 20 = .ok (.aload_n 0, 1) := by decide +kernel
theorem d_LT_word_21 : decode b_LT_word 21 = .ok (.getfield 68, 3) := by decide +kernel
theorem d_LT_word_24 : decode b_LT_word 24 = .ok (.invokevirtual 165, 3) := by decide +kernel
theorem d_LT_word_27 : decode b_LT_word 27 = .ok (.if_icmp .lt 11, 3) := by decide +kernel
theorem d_LT_word_30 : decode b_LT_word 30 = .ok (.new 94, 3) := by decide +kernel
theorem d_LT_word_33 : decode b_LT_word 33 = .ok (.dup, 1) := by decide +kernel
theorem d_LT_word_34 : decode b_LT_word 34 = .ok (.invokespecial 96, 3) := by decide +kernel
theorem d_LT_word_37 : decode b_LT_word 37 = .ok (.athrow, 1) := by decide +kernel
theorem d_LT_word_38 : decode b_LT_word 38 = .ok (.aload_n 0, 1) := by decide +kernel
theorem d_LT_word_39 : decode b_LT_word 39 = .ok (.getfield 68, 3) := by decide +kernel
theorem d_LT_word_42 : decode b_LT_word 42 = .ok (.iload_n 1, 1) := by decide +kernel
theorem d_LT_word_43 : decode b_LT_word 43 = .ok (.invokevirtual 166, 3) := by decide +kernel
theorem d_LT_word_46 : decode b_LT_word 46 = .ok (.lreturn, 1) := by decide +kernel
def q_LT_word : List (Nat × j_S) := [(0, j_ld 2 0 1),
  (1, j_gf [0] 0 4),
  (4, j_br (f_if (fun x => decide (¬ x = 0))) 15 7),
  (7, j_th 3),
  (15, j_ld 0 1 16),
  (16, j_br (f_if (fun x => decide (x < 0))) 30 19),
  (19, j_ld 0 1 20),
  (20, j_ld 2 0 21),
  (21, j_gf [0] 15 24),
  (24, j_cv [(8, 136)] 0),
  (27, j_br (f_ic (fun x y => decide (x < y))) 38 30),
  (30, j_th 2),
  (38, j_ld 2 0 39),
  (39, j_gf [0] 15 42),
  (42, j_ld 0 1 43),
  (43, j_cv [(8, 132)] 1),
  (46, j_rt 1)]
def i_LT_word : j_I := (R_LT, b_LT_word, 2, false, (some .long), [])
def e_LT_word : j_E := ((y_LT_word, c_LT_word), i_LT_word, j_tab q_LT_word, [])
theorem o_LT_word (G : j_G) : j_mok G tm e_LT_word := ⟨by decide +kernel, Or.inl ⟨rfl, rfl⟩, rfl, (fun h => by cases h), j_tab_ok (i := i_LT_word) (l := q_LT_word) (j_all_mem ⟨r_aload_n d_LT_word_0 rfl,
  r_getfield (j_all_mem ⟨⟨_, _, _, rfl, w_LT, by decide, ⟨_, k_248, Or.inl rfl⟩⟩, trivial⟩) d_LT_word_1,
  r_if_ne d_LT_word_4 (by decide),
  r_throw3 k_1187 k_1196 rfl d_LT_word_7 d_LT_word_10 d_LT_word_11 d_LT_word_14,
  r_iload_n d_LT_word_15 rfl,
  r_if_lt d_LT_word_16 (by decide),
  r_iload_n d_LT_word_19 rfl,
  r_aload_n d_LT_word_20 rfl,
  r_getfield (j_all_mem ⟨⟨_, _, _, rfl, w_LT, by decide, ⟨_, k_247, Or.inl rfl⟩⟩, trivial⟩) d_LT_word_21,
  r_invV (j_all_mem ⟨⟨⟨_, _, _, rfl, k_1229, k_319, k_320⟩, cw_Ve_length, by decide, by decide +kernel⟩, trivial⟩) d_LT_word_24,
  r_ic_lt d_LT_word_27 (by decide),
  r_throw2 k_1053 k_1054 rfl d_LT_word_30 d_LT_word_33 d_LT_word_34 d_LT_word_37,
  r_aload_n d_LT_word_38 rfl,
  r_getfield (j_all_mem ⟨⟨_, _, _, rfl, w_LT, by decide, ⟨_, k_247, Or.inl rfl⟩⟩, trivial⟩) d_LT_word_39,
  r_iload_n d_LT_word_42 rfl,
  r_invV (j_all_mem ⟨⟨⟨_, _, _, rfl, k_1237, k_1238, k_1239⟩, cw_Ve_eightBytes, by decide, by decide +kernel⟩, trivial⟩) d_LT_word_43,
  r_lreturn d_LT_word_46 rfl, trivial⟩), (fun q h => by cases h), (fun _ => rfl)⟩
theorem d_LT_writeNeeded_0 : decode b_LT_writeNeeded 0 = .ok (.iconst 0, 1) := by decide +kernel
theorem d_LT_writeNeeded_1 : decode b_LT_writeNeeded 1 = .ok (.istore_n 2, 1) := by decide +kernel
theorem d_LT_writeNeeded_2 : decode b_LT_writeNeeded 2 = .ok (.iconst 0, 1) := by decide +kernel
theorem d_LT_writeNeeded_3 : decode b_LT_writeNeeded 3 = .ok (.istore_n 3, 1) := by decide +kernel
theorem d_LT_writeNeeded_4 : decode b_LT_writeNeeded 4 = .ok (.aload_n 0, 1) := by decide +kernel
theorem d_LT_writeNeeded_5 : decode b_LT_writeNeeded 5 = .ok (.getfield 86, 3) := by decide +kernel
theorem d_LT_writeNeeded_8 : decode b_LT_writeNeeded 8 = .ok (.invokevirtual 277, 3) := by decide +kernel
theorem d_LT_writeNeeded_11 : decode b_LT_writeNeeded 11 = .ok (.aload_n 0, 1) := by decide +kernel
theorem d_LT_writeNeeded_12 : decode b_LT_writeNeeded 12 = .ok (.getfield 79, 3) := by decide +kernel
theorem d_LT_writeNeeded_15 : decode b_LT_writeNeeded 15 = .ok (.invokevirtual 238, 3) := by decide +kernel
theorem d_LT_writeNeeded_18 : decode b_LT_writeNeeded 18 = .ok (.iconst 0, 1) := by decide +kernel
theorem d_LT_writeNeeded_19 : decode b_LT_writeNeeded 19 = .ok (.istore 4, 2) := by decide +kernel
theorem d_LT_writeNeeded_21 : decode b_LT_writeNeeded 21 = .ok (.iload 4, 2) := by decide +kernel
theorem d_LT_writeNeeded_23 : decode b_LT_writeNeeded 23 = .ok (.sipush 500, 3) := by decide +kernel
theorem d_LT_writeNeeded_26 : decode b_LT_writeNeeded 26 = .ok (.if_icmp .ge 169, 3) := by decide +kernel
theorem d_LT_writeNeeded_29 : decode b_LT_writeNeeded 29 = .ok (.aload_n 0, 1) := by decide +kernel
theorem d_LT_writeNeeded_30 : decode b_LT_writeNeeded 30 = .ok (.getfield 79, 3) := by decide +kernel
theorem d_LT_writeNeeded_33 : decode b_LT_writeNeeded 33 = .ok (.invokevirtual 240, 3) := by decide +kernel
theorem d_LT_writeNeeded_36 : decode b_LT_writeNeeded 36 = .ok (.ifCond .eq 159, 3) := by decide +kernel
theorem d_LT_writeNeeded_39 : decode b_LT_writeNeeded 39 = .ok (.aload_n 0, 1) := by decide +kernel
theorem d_LT_writeNeeded_40 : decode b_LT_writeNeeded 40 = .ok (.getfield 79, 3) := by decide +kernel
theorem d_LT_writeNeeded_43 : decode b_LT_writeNeeded 43 = .ok (.invokevirtual 246, 3) := by decide +kernel
theorem d_LT_writeNeeded_46 : decode b_LT_writeNeeded 46 = .ok (.astore 5, 2) := by decide +kernel
theorem d_LT_writeNeeded_48 : decode b_LT_writeNeeded 48 = .ok (.aload_n 0, 1) := by decide +kernel
theorem d_LT_writeNeeded_49 : decode b_LT_writeNeeded 49 = .ok (.getfield 79, 3) := by decide +kernel
theorem d_LT_writeNeeded_52 : decode b_LT_writeNeeded 52 = .ok (.invokevirtual 278, 3) := by decide +kernel
theorem d_LT_writeNeeded_55 : decode b_LT_writeNeeded 55 = .ok (.sipush 1023, 3) := by decide +kernel
theorem d_LT_writeNeeded_58 : decode b_LT_writeNeeded 58 = .ok (.if_icmp .ne 7, 3) := by decide +kernel
theorem d_LT_writeNeeded_61 : decode b_LT_writeNeeded 61 = .ok (.iconst 1, 1) := by decide +kernel
theorem d_LT_writeNeeded_62 : decode b_LT_writeNeeded 62 = .ok (.goto 4, 3) := by decide +kernel
theorem d_LT_writeNeeded_65 : decode b_LT_writeNeeded 65 = .ok (.iconst 0, 1) := by decide +kernel
theorem d_LT_writeNeeded_66 : decode b_LT_writeNeeded 66 = .ok (.istore 6, 2) := by decide +kernel
theorem d_LT_writeNeeded_68 : decode b_LT_writeNeeded 68 = .ok (.iload 6, 2) := by decide +kernel
theorem d_LT_writeNeeded_70 : decode b_LT_writeNeeded 70 = .ok (.ifCond .eq 13, 3) := by decide +kernel
theorem d_LT_writeNeeded_73 : decode b_LT_writeNeeded 73 = .ok (.aload_n 0, 1) := by decide +kernel
theorem d_LT_writeNeeded_74 : decode b_LT_writeNeeded 74 = .ok (.aload 5, 2) := by decide +kernel
theorem d_LT_writeNeeded_76 : decode b_LT_writeNeeded 76 = .ok (.iload_n 1, 1) := by decide +kernel
theorem d_LT_writeNeeded_77 : decode b_LT_writeNeeded 77 = .ok (.invokevirtual 281, 3) := by decide +kernel
theorem d_LT_writeNeeded_80 : decode b_LT_writeNeeded 80 = .ok (.goto 10, 3) := by decide +kernel
theorem d_LT_writeNeeded_83 : decode b_LT_writeNeeded 83 = .ok (.aload_n 0, 1) := by decide +kernel
theorem d_LT_writeNeeded_84 : decode b_LT_writeNeeded 84 = .ok (.getfield 79, 3) := by decide +kernel
theorem d_LT_writeNeeded_87 : decode b_LT_writeNeeded 87 = .ok (.invokevirtual 278, 3) := by decide +kernel
theorem d_LT_writeNeeded_90 : decode b_LT_writeNeeded 90 = .ok (.istore 7, 2) := by decide +kernel
theorem d_LT_writeNeeded_92 : decode b_LT_writeNeeded 92 = .ok (.iload_n 2, 1) := by decide +kernel
theorem d_LT_writeNeeded_93 : decode b_LT_writeNeeded 93 = .ok (.ifCond .ne 26, 3) := by decide +kernel
theorem d_LT_writeNeeded_96 : decode b_LT_writeNeeded 96 = .ok (.aload 5, 2) := by decide +kernel
theorem d_LT_writeNeeded_98 : decode b_LT_writeNeeded 98 = .ok (.invokevirtual 227, 3) := by decide +kernel
theorem d_LT_writeNeeded_101 : decode b_LT_writeNeeded 101 = .ok (.ifCond .ne 18, 3) := by decide +kernel
theorem d_LT_writeNeeded_104 : decode b_LT_writeNeeded 104 = .ok (.aload_n 0, 1) := by decide +kernel
theorem d_LT_writeNeeded_105 : decode b_LT_writeNeeded 105 = .ok (.aload 5, 2) := by decide +kernel
theorem d_LT_writeNeeded_107 : decode b_LT_writeNeeded 107 = .ok (.aload 5, 2) := by decide +kernel
theorem d_LT_writeNeeded_109 : decode b_LT_writeNeeded 109 = .ok (.invokevirtual 162, 3) := by decide +kernel
theorem d_LT_writeNeeded_112 : decode b_LT_writeNeeded 112 = .ok (.iload_n 1, 1) := by decide +kernel
theorem d_LT_writeNeeded_113 : decode b_LT_writeNeeded 113 = .ok (.iconst 2, 1) := by decide +kernel
theorem d_LT_writeNeeded_114 : decode b_LT_writeNeeded 114 = .ok (.iadd, 1) := by decide +kernel
theorem d_LT_writeNeeded_115 : decode b_LT_writeNeeded 115 = .ok (.invokevirtual 134, 3) := by decide +kernel
theorem d_LT_writeNeeded_118 : decode b_LT_writeNeeded 118 = .ok (.istore_n 3, 1) := by decide +kernel
theorem d_LT_writeNeeded_119 : decode b_LT_writeNeeded 119 = .ok (.aload_n 0, 1) := by decide +kernel
theorem d_LT_writeNeeded_120 : decode b_LT_writeNeeded 120 = .ok (.getfield 19, 3) := by decide +kernel
theorem d_LT_writeNeeded_123 : decode b_LT_writeNeeded 123 = .ok (.aload 5, 2) := by decide +kernel
theorem d_LT_writeNeeded_125 : decode b_LT_writeNeeded 125 = .ok (.invokevirtual 162, 3) := by decide +kernel
theorem d_LT_writeNeeded_128 : decode b_LT_writeNeeded 128 = .ok (.iload 7, 2) := by decide +kernel
theorem d_LT_writeNeeded_130 : decode b_LT_writeNeeded 130 = .ok (.invokevirtual 285, 3) := by decide +kernel
theorem d_LT_writeNeeded_133 : decode b_LT_writeNeeded 133 = .ok (.ifCond .eq 41, 3) := by decide +kernel
theorem d_LT_writeNeeded_136 : decode b_LT_writeNeeded 136 = .ok (.aload 5, 2) := by decide +kernel
theorem d_LT_writeNeeded_138 : decode b_LT_writeNeeded 138 = .ok (.invokevirtual 227, 3) := by decide +kernel
theorem d_LT_writeNeeded_141 : decode b_LT_writeNeeded 141 = .ok (.ifCond .ne 7, 3) := by decide +kernel
theorem d_LT_writeNeeded_144 : decode b_LT_writeNeeded 144 = .ok (.iload_n 3, 1) := by decide +kernel
theorem d_LT_writeNeeded_145 : decode b_LT_writeNeeded 145 = .ok (.ifCond .eq 29, 3) := by decide +kernel
theorem d_LT_writeNeeded_148 : decode b_LT_writeNeeded 148 = .ok (.aload_n 0, 1) := by decide +kernel
theorem d_LT_writeNeeded_149 : decode b_LT_writeNeeded 149 = .ok (.getfield 86, 3) := by decide +kernel
theorem d_LT_writeNeeded_152 : decode b_LT_writeNeeded 152 = .ok (.aload 5, 2) := by decide +kernel
theorem d_LT_writeNeeded_154 : decode b_LT_writeNeeded 154 = .ok (.iload_n 2, 1) := by decide +kernel
theorem d_LT_writeNeeded_155 : decode b_LT_writeNeeded 155 = .ok (.ifCond .ne 7, 3) := by decide +kernel
theorem d_LT_writeNeeded_158 : decode b_LT_writeNeeded 158 = .ok (.iconst 1, 1) := by decide +kernel
theorem d_LT_writeNeeded_159 : decode b_LT_writeNeeded 159 = .ok (.goto 4, 3) := by decide +kernel
theorem d_LT_writeNeeded_162 : decode b_LT_writeNeeded 162 = .ok (.iconst 0, 1) := by decide +kernel
theorem d_LT_writeNeeded_163 : decode b_LT_writeNeeded 163 = .ok (.invokevirtual 289, 3) := by decide +kernel
theorem d_LT_writeNeeded_166 : decode b_LT_writeNeeded 166 = .ok (.iconst 1, 1) := by decide +kernel
theorem d_LT_writeNeeded_167 : decode b_LT_writeNeeded 167 = .ok (.istore_n 2, 1) := by decide +kernel
theorem d_LT_writeNeeded_168 : decode b_LT_writeNeeded 168 = .ok (.aload 5, 2) := by decide +kernel
theorem d_LT_writeNeeded_170 : decode b_LT_writeNeeded 170 = .ok (.invokevirtual 227, 3) := by decide +kernel
theorem d_LT_writeNeeded_173 : decode b_LT_writeNeeded 173 = .ok (.istore_n 3, 1) := by decide +kernel
theorem d_LT_writeNeeded_174 : decode b_LT_writeNeeded 174 = .ok (.iload_n 2, 1) := by decide +kernel
theorem d_LT_writeNeeded_175 : decode b_LT_writeNeeded 175 = .ok (.ifCond .eq 12, 3) := by decide +kernel
theorem d_LT_writeNeeded_178 : decode b_LT_writeNeeded 178 = .ok (.iload 6, 2) := by decide +kernel
theorem d_LT_writeNeeded_180 : decode b_LT_writeNeeded 180 = .ok (.ifCond .ne 7, 3) := by decide +kernel
theorem d_LT_writeNeeded_183 : decode b_LT_writeNeeded 183 = .ok (.iconst 1, 1) := by decide +kernel
theorem d_LT_writeNeeded_184 : decode b_LT_writeNeeded 184 = .ok (.goto 4, 3) := by decide +kernel
theorem d_LT_writeNeeded_187 : decode b_LT_writeNeeded 187 = .ok (.iconst 0, 1) := by decide +kernel
theorem d_LT_writeNeeded_188 : decode b_LT_writeNeeded 188 = .ok (.istore_n 2, 1) := by decide +kernel
theorem d_LT_writeNeeded_189 : decode b_LT_writeNeeded 189 = .ok (.iinc 4 1, 3) := by decide +kernel
theorem d_LT_writeNeeded_192 : decode b_LT_writeNeeded 192 = .ok (.goto (-171), 3) := by decide +kernel
theorem d_LT_writeNeeded_195 : decode b_LT_writeNeeded 195 = .ok (.aload_n 0, 1) := by decide +kernel
theorem d_LT_writeNeeded_196 : decode b_LT_writeNeeded 196 = .ok (.getfield 86, 3) := by decide +kernel
theorem d_LT_writeNeeded_199 : decode b_LT_writeNeeded 199 = .ok (.invokevirtual 293, 3) := by decide +kernel
theorem d_LT_writeNeeded_202 : decode b_LT_writeNeeded 202 = .ok (.return_, 1) := by decide +kernel
def q_LT_writeNeeded : List (Nat × j_S) := [(0, j_st (f_psh (.int 0)) 1),
  (1, j_so 0 2 2),
  (2, j_st (f_psh (.int 0)) 3),
  (3, j_so 0 3 4),
  (4, j_ld 2 0 5),
  (5, j_gf [0] 9 8),
  (8, j_cv [(7, 160)] 0),
  (11, j_ld 2 0 12),
  (12, j_gf [0] 8 15),
  (15, j_cv [(6, 151)] 0),
  (18, j_st (f_psh (.int 0)) 19),
  (19, j_so 0 4 21),
  (21, j_ld 0 4 23),
  (23, j_st (f_psh (.int 500)) 26),
  (26, j_br (f_ic (fun x y => decide (y ≤ x))) 195 29),
  (29, j_ld 2 0 30),
  (30, j_gf [0] 8 33),
  (33, j_cv [(6, 150)] 0),
  (36, j_br (f_if (fun x => decide (x = 0))) 195 39),
  (39, j_ld 2 0 40),
  (40, j_gf [0] 8 43),
  (43, j_cv [(6, 158)] 0),
  (46, j_so 2 5 48),
  (48, j_ld 2 0 49),
  (49, j_gf [0] 8 52),
  (52, j_cv [(6, 157)] 0),
  (55, j_st (f_psh (.int 1023)) 58),
  (58, j_br (f_ic (fun x y => decide (¬ x = y))) 65 61),
  (61, j_st (f_psh (.int 1)) 62),
  (62, j_st f_id 66),
  (65, j_st (f_psh (.int 0)) 66),
  (66, j_so 0 6 68),
  (68, j_ld 0 6 70),
  (70, j_br (f_if (fun x => decide (x = 0))) 83 73),
  (73, j_ld 2 0 74),
  (74, j_ld 2 5 76),
  (76, j_ld 0 1 77),
  (77, j_cv [(0, 47)] 2),
  (80, j_st f_id 90),
  (83, j_ld 2 0 84),
  (84, j_gf [0] 8 87),
  (87, j_cv [(6, 157)] 0),
  (90, j_so 0 7 92),
  (92, j_ld 0 2 93),
  (93, j_br (f_if (fun x => decide (¬ x = 0))) 119 96),
  (96, j_ld 2 5 98),
  (98, j_cv [(8, 135)] 0),
  (101, j_br (f_if (fun x => decide (¬ x = 0))) 119 104),
  (104, j_ld 2 0 105),
  (105, j_ld 2 5 107),
  (107, j_ld 2 5 109),
  (109, j_cv [(8, 137)] 0),
  (112, j_ld 0 1 113),
  (113, j_st (f_psh (.int 2)) 114),
  (114, j_st (f_ii (fun a b => a + b)) 115),
  (115, j_cv [(0, 42)] 3),
  (118, j_so 0 3 119),
  (119, j_ld 2 0 120),
  (120, j_gf [0] 3 123),
  (123, j_ld 2 5 125),
  (125, j_cv [(8, 137)] 0),
  (128, j_ld 0 7 130),
  (130, j_cv [(2, 147)] 2),
  (133, j_br (f_if (fun x => decide (x = 0))) 174 136),
  (136, j_ld 2 5 138),
  (138, j_cv [(8, 135)] 0),
  (141, j_br (f_if (fun x => decide (¬ x = 0))) 148 144),
  (144, j_ld 0 3 145),
  (145, j_br (f_if (fun x => decide (x = 0))) 174 148),
  (148, j_ld 2 0 149),
  (149, j_gf [0] 9 152),
  (152, j_ld 2 5 154),
  (154, j_ld 0 2 155),
  (155, j_br (f_if (fun x => decide (¬ x = 0))) 162 158),
  (158, j_st (f_psh (.int 1)) 159),
  (159, j_st f_id 163),
  (162, j_st (f_psh (.int 0)) 163),
  (163, j_cv [(7, 159)] 2),
  (166, j_st (f_psh (.int 1)) 167),
  (167, j_so 0 2 168),
  (168, j_ld 2 5 170),
  (170, j_cv [(8, 135)] 0),
  (173, j_so 0 3 174),
  (174, j_ld 0 2 175),
  (175, j_br (f_if (fun x => decide (x = 0))) 187 178),
  (178, j_ld 0 6 180),
  (180, j_br (f_if (fun x => decide (¬ x = 0))) 187 183),
  (183, j_st (f_psh (.int 1)) 184),
  (184, j_st f_id 188),
  (187, j_st (f_psh (.int 0)) 188),
  (188, j_so 0 2 189),
  (189, j_ic 4 1 192),
  (192, j_st f_id 21),
  (195, j_ld 2 0 196),
  (196, j_gf [0] 9 199),
  (199, j_cv [(7, 162)] 0),
  (202, j_rv)]
def i_LT_writeNeeded : j_I := (R_LT, b_LT_writeNeeded, 8, false, none, [])
def e_LT_writeNeeded : j_E := ((y_LT_writeNeeded, c_LT_writeNeeded), i_LT_writeNeeded, j_tab q_LT_writeNeeded, [])
theorem o_LT_writeNeeded (G : j_G) : j_mok G tm e_LT_writeNeeded := ⟨by decide +kernel, Or.inl ⟨rfl, rfl⟩, rfl, (fun h => by cases h), j_tab_ok (i := i_LT_writeNeeded) (l := q_LT_writeNeeded) (j_all_mem ⟨r_iconst d_LT_writeNeeded_0 (by decide),
  r_istore_n d_LT_writeNeeded_1 rfl (by decide),
  r_iconst d_LT_writeNeeded_2 (by decide),
  r_istore_n d_LT_writeNeeded_3 rfl (by decide),
  r_aload_n d_LT_writeNeeded_4 rfl,
  r_getfield (j_all_mem ⟨⟨_, _, _, rfl, w_LT, by decide, ⟨_, k_241, Or.inl rfl⟩⟩, trivial⟩) d_LT_writeNeeded_5,
  r_invV (j_all_mem ⟨⟨⟨_, _, _, rfl, k_418, k_419, k_420⟩, cw_Wr_begin, by decide, by decide +kernel⟩, trivial⟩) d_LT_writeNeeded_8,
  r_aload_n d_LT_writeNeeded_11 rfl,
  r_getfield (j_all_mem ⟨⟨_, _, _, rfl, w_LT, by decide, ⟨_, k_240, Or.inl rfl⟩⟩, trivial⟩) d_LT_writeNeeded_12,
  r_invV (j_all_mem ⟨⟨⟨_, _, _, rfl, k_426, k_427, k_428⟩, cw_Wk_begin, by decide, by decide +kernel⟩, trivial⟩) d_LT_writeNeeded_15,
  r_iconst d_LT_writeNeeded_18 (by decide),
  r_istore d_LT_writeNeeded_19 (by decide),
  r_iload d_LT_writeNeeded_21,
  r_sipush d_LT_writeNeeded_23 (by decide),
  r_ic_ge d_LT_writeNeeded_26 (by decide),
  r_aload_n d_LT_writeNeeded_29 rfl,
  r_getfield (j_all_mem ⟨⟨_, _, _, rfl, w_LT, by decide, ⟨_, k_240, Or.inl rfl⟩⟩, trivial⟩) d_LT_writeNeeded_30,
  r_invV (j_all_mem ⟨⟨⟨_, _, _, rfl, k_440, k_441, k_442⟩, cw_Wk_advance, by decide, by decide +kernel⟩, trivial⟩) d_LT_writeNeeded_33,
  r_if_eq d_LT_writeNeeded_36 (by decide),
  r_aload_n d_LT_writeNeeded_39 rfl,
  r_getfield (j_all_mem ⟨⟨_, _, _, rfl, w_LT, by decide, ⟨_, k_240, Or.inl rfl⟩⟩, trivial⟩) d_LT_writeNeeded_40,
  r_invV (j_all_mem ⟨⟨⟨_, _, _, rfl, k_446, k_447, k_448⟩, cw_Wk_version, by decide, by decide +kernel⟩, trivial⟩) d_LT_writeNeeded_43,
  r_astore d_LT_writeNeeded_46 (by decide),
  r_aload_n d_LT_writeNeeded_48 rfl,
  r_getfield (j_all_mem ⟨⟨_, _, _, rfl, w_LT, by decide, ⟨_, k_240, Or.inl rfl⟩⟩, trivial⟩) d_LT_writeNeeded_49,
  r_invV (j_all_mem ⟨⟨⟨_, _, _, rfl, k_450, k_451, k_452⟩, cw_Wk_until, by decide, by decide +kernel⟩, trivial⟩) d_LT_writeNeeded_52,
  r_sipush d_LT_writeNeeded_55 (by decide),
  r_ic_ne d_LT_writeNeeded_58 (by decide),
  r_iconst d_LT_writeNeeded_61 (by decide),
  r_goto d_LT_writeNeeded_62 (by decide),
  r_iconst d_LT_writeNeeded_65 (by decide),
  r_istore d_LT_writeNeeded_66 (by decide),
  r_iload d_LT_writeNeeded_68,
  r_if_eq d_LT_writeNeeded_70 (by decide),
  r_aload_n d_LT_writeNeeded_73 rfl,
  r_aload d_LT_writeNeeded_74,
  r_iload_n d_LT_writeNeeded_76 rfl,
  r_invV (j_all_mem ⟨⟨⟨_, _, _, rfl, k_454, k_456, kp_LT_nextMoment⟩, cw_LT_nextMoment, by decide, by decide +kernel⟩, trivial⟩) d_LT_writeNeeded_77,
  r_goto d_LT_writeNeeded_80 (by decide),
  r_aload_n d_LT_writeNeeded_83 rfl,
  r_getfield (j_all_mem ⟨⟨_, _, _, rfl, w_LT, by decide, ⟨_, k_240, Or.inl rfl⟩⟩, trivial⟩) d_LT_writeNeeded_84,
  r_invV (j_all_mem ⟨⟨⟨_, _, _, rfl, k_450, k_451, k_452⟩, cw_Wk_until, by decide, by decide +kernel⟩, trivial⟩) d_LT_writeNeeded_87,
  r_istore d_LT_writeNeeded_90 (by decide),
  r_iload_n d_LT_writeNeeded_92 rfl,
  r_if_ne d_LT_writeNeeded_93 (by decide),
  r_aload d_LT_writeNeeded_96,
  r_invV (j_all_mem ⟨⟨⟨_, _, _, rfl, k_465, k_466, k_467⟩, cw_Ve_isThere, by decide, by decide +kernel⟩, trivial⟩) d_LT_writeNeeded_98,
  r_if_ne d_LT_writeNeeded_101 (by decide),
  r_aload_n d_LT_writeNeeded_104 rfl,
  r_aload d_LT_writeNeeded_105,
  r_aload d_LT_writeNeeded_107,
  r_invV (j_all_mem ⟨⟨⟨_, _, _, rfl, k_459, k_393, k_394⟩, cw_Ve_moment, by decide, by decide +kernel⟩, trivial⟩) d_LT_writeNeeded_109,
  r_iload_n d_LT_writeNeeded_112 rfl,
  r_iconst d_LT_writeNeeded_113 (by decide),
  r_iadd d_LT_writeNeeded_114,
  r_invV (j_all_mem ⟨⟨⟨_, _, _, rfl, k_469, k_471, kp_LT_hasSomething⟩, cw_LT_hasSomething, by decide, by decide +kernel⟩, trivial⟩) d_LT_writeNeeded_115,
  r_istore_n d_LT_writeNeeded_118 rfl (by decide),
  r_aload_n d_LT_writeNeeded_119 rfl,
  r_getfield (j_all_mem ⟨⟨_, _, _, rfl, w_LT, by decide, ⟨_, k_235, Or.inl rfl⟩⟩, trivial⟩) d_LT_writeNeeded_120,
  r_aload d_LT_writeNeeded_123,
  r_invV (j_all_mem ⟨⟨⟨_, _, _, rfl, k_459, k_393, k_394⟩, cw_Ve_moment, by decide, by decide +kernel⟩, trivial⟩) d_LT_writeNeeded_125,
  r_iload d_LT_writeNeeded_128,
  r_invV (j_all_mem ⟨⟨⟨_, _, _, rfl, k_473, k_474, k_475⟩, cw_Vi_need, by decide, by decide +kernel⟩, trivial⟩) d_LT_writeNeeded_130,
  r_if_eq d_LT_writeNeeded_133 (by decide),
  r_aload d_LT_writeNeeded_136,
  r_invV (j_all_mem ⟨⟨⟨_, _, _, rfl, k_465, k_466, k_467⟩, cw_Ve_isThere, by decide, by decide +kernel⟩, trivial⟩) d_LT_writeNeeded_138,
  r_if_ne d_LT_writeNeeded_141 (by decide),
  r_iload_n d_LT_writeNeeded_144 rfl,
  r_if_eq d_LT_writeNeeded_145 (by decide),
  r_aload_n d_LT_writeNeeded_148 rfl,
  r_getfield (j_all_mem ⟨⟨_, _, _, rfl, w_LT, by decide, ⟨_, k_241, Or.inl rfl⟩⟩, trivial⟩) d_LT_writeNeeded_149,
  r_aload d_LT_writeNeeded_152,
  r_iload_n d_LT_writeNeeded_154 rfl,
  r_if_ne d_LT_writeNeeded_155 (by decide),
  r_iconst d_LT_writeNeeded_158 (by decide),
  r_goto d_LT_writeNeeded_159 (by decide),
  r_iconst d_LT_writeNeeded_162 (by decide),
  r_invV (j_all_mem ⟨⟨⟨_, _, _, rfl, k_477, k_478, k_479⟩, cw_Wr_add, by decide, by decide +kernel⟩, trivial⟩) d_LT_writeNeeded_163,
  r_iconst d_LT_writeNeeded_166 (by decide),
  r_istore_n d_LT_writeNeeded_167 rfl (by decide),
  r_aload d_LT_writeNeeded_168,
  r_invV (j_all_mem ⟨⟨⟨_, _, _, rfl, k_465, k_466, k_467⟩, cw_Ve_isThere, by decide, by decide +kernel⟩, trivial⟩) d_LT_writeNeeded_170,
  r_istore_n d_LT_writeNeeded_173 rfl (by decide),
  r_iload_n d_LT_writeNeeded_174 rfl,
  r_if_eq d_LT_writeNeeded_175 (by decide),
  r_iload d_LT_writeNeeded_178,
  r_if_ne d_LT_writeNeeded_180 (by decide),
  r_iconst d_LT_writeNeeded_183 (by decide),
  r_goto d_LT_writeNeeded_184 (by decide),
  r_iconst d_LT_writeNeeded_187 (by decide),
  r_istore_n d_LT_writeNeeded_188 rfl (by decide),
  j_ok_ic d_LT_writeNeeded_189 rfl (by decide) (by decide),
  r_goto d_LT_writeNeeded_192 (by decide),
  r_aload_n d_LT_writeNeeded_195 rfl,
  r_getfield (j_all_mem ⟨⟨_, _, _, rfl, w_LT, by decide, ⟨_, k_241, Or.inl rfl⟩⟩, trivial⟩) d_LT_writeNeeded_196,
  r_invV (j_all_mem ⟨⟨⟨_, _, _, rfl, k_598, k_482, k_483⟩, cw_Wr_seal, by decide, by decide +kernel⟩, trivial⟩) d_LT_writeNeeded_199,
  r_return d_LT_writeNeeded_202 rfl, trivial⟩), (fun q h => by cases h), (fun _ => rfl)⟩
theorem d_LT_writeOut_0 : decode b_LT_writeOut 0 = .ok (.aload_n 0, 1) := by decide +kernel
theorem d_LT_writeOut_1 : decode b_LT_writeOut 1 = .ok (.getfield 39, 3) := by decide +kernel
theorem d_LT_writeOut_4 : decode b_LT_writeOut 4 = .ok (.iconst 0, 1) := by decide +kernel
theorem d_LT_writeOut_5 : decode b_LT_writeOut 5 = .ok (.aaload, 1) := by decide +kernel
theorem d_LT_writeOut_6 : decode b_LT_writeOut 6 = .ok (.astore_n 1, 1) := by decide +kernel
theorem d_LT_writeOut_7 : decode b_LT_writeOut 7 = .ok (.aload_n 0, 1) := by decide +kernel
theorem d_LT_writeOut_8 : decode b_LT_writeOut 8 = .ok (.getfield 33, 3) := by decide +kernel
theorem d_LT_writeOut_11 : decode b_LT_writeOut 11 = .ok (.iconst 0, 1) := by decide +kernel
theorem d_LT_writeOut_12 : decode b_LT_writeOut 12 = .ok (.aload_n 0, 1) := by decide +kernel
theorem d_LT_writeOut_13 : decode b_LT_writeOut 13 = .ok (.getfield 62, 3) := by decide +kernel
theorem d_LT_writeOut_16 : decode b_LT_writeOut 16 = .ok (.invokevirtual 250, 3) := by decide +kernel
theorem d_LT_writeOut_19 : decode b_LT_writeOut 19 = .ok (.aload_n 0, 1) := by decide +kernel
theorem d_LT_writeOut_20 : decode b_LT_writeOut 20 = .ok (.getfield 33, 3) := by decide +kernel
theorem d_LT_writeOut_23 : decode b_LT_writeOut 23 = .ok (.aload_n 0, 1) := by decide +kernel
theorem d_LT_writeOut_24 : decode b_LT_writeOut 24 = .ok (.getfield 33, 3) := by decide +kernel
theorem d_LT_writeOut_27 : decode b_LT_writeOut 27 = .ok (.invokevirtual 170, 3) := by decide +kernel
theorem d_LT_writeOut_30 : decode b_LT_writeOut 30 = .ok (.iconst 1, 1) := by decide +kernel
theorem d_LT_writeOut_31 : decode b_LT_writeOut 31 = .ok (.isub, 1) := by decide +kernel
theorem d_LT_writeOut_32 : decode b_LT_writeOut 32 = .ok (.aload_n 0, 1) := by decide +kernel
theorem d_LT_writeOut_33 : decode b_LT_writeOut 33 = .ok (.getfield 65, 3) := by decide +kernel
theorem d_LT_writeOut_36 : decode b_LT_writeOut 36 = .ok (.invokevirtual 250, 3) := by decide +kernel
theorem d_LT_writeOut_39 : decode b_LT_writeOut 39 = .ok (.aload_n 1, 1) := by decide +kernel
theorem d_LT_writeOut_40 : decode b_LT_writeOut 40 = .ok (.aload_n 0, 1) := by decide +kernel
theorem d_LT_writeOut_41 : decode b_LT_writeOut 41 = .ok (.getfield 62, 3) := by decide +kernel
theorem d_LT_writeOut_44 : decode b_LT_writeOut 44 = .ok (.invokevirtual 251, 3) := by decide +kernel
theorem d_LT_writeOut_47 : decode b_LT_writeOut 47 = .ok (.istore_n 2, 1) := by decide +kernel
theorem d_LT_writeOut_48 : decode b_LT_writeOut 48 = .ok (.aload_n 1, 1) := by decide +kernel
theorem d_LT_writeOut_49 : decode b_LT_writeOut 49 = .ok (.aload_n 0, 1) := by decide +kernel
theorem d_LT_writeOut_50 : decode b_LT_writeOut 50 = .ok (.getfield 65, 3) := by decide +kernel
theorem d_LT_writeOut_53 : decode b_LT_writeOut 53 = .ok (.invokevirtual 254, 3) := by decide +kernel
theorem d_LT_writeOut_56 : decode b_LT_writeOut 56 = .ok (.istore_n 3, 1) := by decide +kernel
theorem d_LT_writeOut_57 : decode b_LT_writeOut 57 = .ok (.aload_n 0, 1) := by decide +kernel
theorem d_LT_writeOut_58 : decode b_LT_writeOut 58 = .ok (.getfield 79, 3) := by decide +kernel
theorem d_LT_writeOut_61 : decode b_LT_writeOut 61 = .ok (.invokevirtual 230, 3) := by decide +kernel
theorem d_LT_writeOut_64 : decode b_LT_writeOut 64 = .ok (.aload_n 0, 1) := by decide +kernel
theorem d_LT_writeOut_65 : decode b_LT_writeOut 65 = .ok (.getfield 79, 3) := by decide +kernel
theorem d_LT_writeOut_68 : decode b_LT_writeOut 68 = .ok (.iconst 0, 1) := by decide +kernel
theorem d_LT_writeOut_69 : decode b_LT_writeOut 69 = .ok (.iconst 0, 1) := by decide +kernel
theorem d_LT_writeOut_70 : decode b_LT_writeOut 70 = .ok (.aload_n 0, 1) := by decide +kernel
theorem d_LT_writeOut_71 : decode b_LT_writeOut 71 = .ok (.getfield 33, 3) := by decide +kernel
theorem d_LT_writeOut_74 : decode b_LT_writeOut 74 = .ok (.invokevirtual 170, 3) := by decide +kernel
theorem d_LT_writeOut_77 : decode b_LT_writeOut 77 = .ok (.invokevirtual 234, 3) := by decide +kernel
theorem d_LT_writeOut_80 : decode b_LT_writeOut 80 = .ok (.aload_n 0, 1) := by decide +kernel
theorem d_LT_writeOut_81 : decode b_LT_writeOut 81 = .ok (.getfield 79, 3) := by decide +kernel
theorem d_LT_writeOut_84 : decode b_LT_writeOut 84 = .ok (.iconst 1, 1) := by decide +kernel
theorem d_LT_writeOut_85 : decode b_LT_writeOut 85 = .ok (.aload_n 1, 1) := by decide +kernel
theorem d_LT_writeOut_86 : decode b_LT_writeOut 86 = .ok (.iload_n 2, 1) := by decide +kernel
theorem d_LT_writeOut_87 : decode b_LT_writeOut 87 = .ok (.invokevirtual 257, 3) := by decide +kernel
theorem d_LT_writeOut_90 : decode b_LT_writeOut 90 = .ok (.aload_n 1, 1) := by decide +kernel
theorem d_LT_writeOut_91 : decode b_LT_writeOut 91 = .ok (.iload_n 3, 1) := by decide +kernel
theorem d_LT_writeOut_92 : decode b_LT_writeOut 92 = .ok (.invokevirtual 257, 3) := by decide +kernel
theorem d_LT_writeOut_95 : decode b_LT_writeOut 95 = .ok (.invokevirtual 234, 3) := by decide +kernel
theorem d_LT_writeOut_98 : decode b_LT_writeOut 98 = .ok (.aload_n 0, 1) := by decide +kernel
theorem d_LT_writeOut_99 : decode b_LT_writeOut 99 = .ok (.iconst 0, 1) := by decide +kernel
theorem d_LT_writeOut_100 : decode b_LT_writeOut 100 = .ok (.invokevirtual 260, 3) := by decide +kernel
theorem d_LT_writeOut_103 : decode b_LT_writeOut 103 = .ok (.aload_n 1, 1) := by decide +kernel
theorem d_LT_writeOut_104 : decode b_LT_writeOut 104 = .ok (.iload_n 2, 1) := by decide +kernel
theorem d_LT_writeOut_105 : decode b_LT_writeOut 105 = .ok (.iload_n 3, 1) := by decide +kernel
theorem d_LT_writeOut_106 : decode b_LT_writeOut 106 = .ok (.invokevirtual 263, 3) := by decide +kernel
theorem d_LT_writeOut_109 : decode b_LT_writeOut 109 = .ok (.aload_n 1, 1) := by decide +kernel
theorem d_LT_writeOut_110 : decode b_LT_writeOut 110 = .ok (.iload_n 2, 1) := by decide +kernel
theorem d_LT_writeOut_111 : decode b_LT_writeOut 111 = .ok (.aload_n 0, 1) := by decide +kernel
theorem d_LT_writeOut_112 : decode b_LT_writeOut 112 = .ok (.getfield 86, 3) := by decide +kernel
theorem d_LT_writeOut_115 : decode b_LT_writeOut 115 = .ok (.invokevirtual 267, 3) := by decide +kernel
theorem d_LT_writeOut_118 : decode b_LT_writeOut 118 = .ok (.invokevirtual 271, 3) := by decide +kernel
theorem d_LT_writeOut_121 : decode b_LT_writeOut 121 = .ok (.aload_n 0, 1) := by decide +kernel
theorem d_LT_writeOut_122 : decode b_LT_writeOut 122 = .ok (.getfield 33, 3) := by decide +kernel
theorem d_LT_writeOut_125 : decode b_LT_writeOut 125 = .ok (.invokevirtual 274, 3) := by decide +kernel
theorem d_LT_writeOut_128 : decode b_LT_writeOut 128 = .ok (.return_, 1) := by decide +kernel
def q_LT_writeOut : List (Nat × j_S) := [(0, j_ld 2 0 1),
  (1, j_gf [0] 6 4),
  (4, j_st (f_psh (.int 0)) 5),
  (5, j_alq 6),
  (6, j_so 2 1 7),
  (7, j_ld 2 0 8),
  (8, j_gf [0] 5 11),
  (11, j_st (f_psh (.int 0)) 12),
  (12, j_ld 2 0 13),
  (13, j_gf [0] 13 16),
  (16, j_cv [(4, 86)] 2),
  (19, j_ld 2 0 20),
  (20, j_gf [0] 5 23),
  (23, j_ld 2 0 24),
  (24, j_gf [0] 5 27),
  (27, j_cv [(4, 83)] 0),
  (30, j_st (f_psh (.int 1)) 31),
  (31, j_st (f_ii (fun a b => a - b)) 32),
  (32, j_ld 2 0 33),
  (33, j_gf [0] 14 36),
  (36, j_cv [(4, 86)] 2),
  (39, j_ld 2 1 40),
  (40, j_ld 2 0 41),
  (41, j_gf [0] 13 44),
  (44, j_cv [(5, 71)] 1),
  (47, j_so 0 2 48),
  (48, j_ld 2 1 49),
  (49, j_ld 2 0 50),
  (50, j_gf [0] 14 53),
  (53, j_cv [(5, 70)] 1),
  (56, j_so 0 3 57),
  (57, j_ld 2 0 58),
  (58, j_gf [0] 8 61),
  (61, j_cv [(6, 152)] 0),
  (64, j_ld 2 0 65),
  (65, j_gf [0] 8 68),
  (68, j_st (f_psh (.int 0)) 69),
  (69, j_st (f_psh (.int 0)) 70),
  (70, j_ld 2 0 71),
  (71, j_gf [0] 5 74),
  (74, j_cv [(4, 83)] 0),
  (77, j_cv [(6, 153)] 3),
  (80, j_ld 2 0 81),
  (81, j_gf [0] 8 84),
  (84, j_st (f_psh (.int 1)) 85),
  (85, j_ld 2 1 86),
  (86, j_ld 0 2 87),
  (87, j_cv [(5, 79)] 1),
  (90, j_ld 2 1 91),
  (91, j_ld 0 3 92),
  (92, j_cv [(5, 79)] 1),
  (95, j_cv [(6, 153)] 3),
  (98, j_ld 2 0 99),
  (99, j_st (f_psh (.int 0)) 100),
  (100, j_cv [(0, 57)] 1),
  (103, j_ld 2 1 104),
  (104, j_ld 0 2 105),
  (105, j_ld 0 3 106),
  (106, j_cv [(5, 77)] 2),
  (109, j_ld 2 1 110),
  (110, j_ld 0 2 111),
  (111, j_ld 2 0 112),
  (112, j_gf [0] 9 115),
  (115, j_cv [(7, 163)] 0),
  (118, j_cv [(5, 73)] 2),
  (121, j_ld 2 0 122),
  (122, j_gf [0] 5 125),
  (125, j_cv [(4, 82)] 0),
  (128, j_rv)]
def i_LT_writeOut : j_I := (R_LT, b_LT_writeOut, 4, false, none, [])
def e_LT_writeOut : j_E := ((y_LT_writeOut, c_LT_writeOut), i_LT_writeOut, j_tab q_LT_writeOut, [])
theorem o_LT_writeOut (G : j_G) : j_mok G tm e_LT_writeOut := ⟨by decide +kernel, Or.inl ⟨rfl, rfl⟩, rfl, (fun h => by cases h), j_tab_ok (i := i_LT_writeOut) (l := q_LT_writeOut) (j_all_mem ⟨r_aload_n d_LT_writeOut_0 rfl,
  r_getfield (j_all_mem ⟨⟨_, _, _, rfl, w_LT, by decide, ⟨_, k_238, Or.inl rfl⟩⟩, trivial⟩) d_LT_writeOut_1,
  r_iconst d_LT_writeOut_4 (by decide),
  r_aaload2 d_LT_writeOut_5,
  r_astore_n d_LT_writeOut_6 rfl (by decide),
  r_aload_n d_LT_writeOut_7 rfl,
  r_getfield (j_all_mem ⟨⟨_, _, _, rfl, w_LT, by decide, ⟨_, k_237, Or.inl rfl⟩⟩, trivial⟩) d_LT_writeOut_8,
  r_iconst d_LT_writeOut_11 (by decide),
  r_aload_n d_LT_writeOut_12 rfl,
  r_getfield (j_all_mem ⟨⟨_, _, _, rfl, w_LT, by decide, ⟨_, k_245, Or.inl rfl⟩⟩, trivial⟩) d_LT_writeOut_13,
  r_invV (j_all_mem ⟨⟨⟨_, _, _, rfl, k_295, k_296, k_297⟩, cw_Me_load, by decide, by decide +kernel⟩, trivial⟩) d_LT_writeOut_16,
  r_aload_n d_LT_writeOut_19 rfl,
  r_getfield (j_all_mem ⟨⟨_, _, _, rfl, w_LT, by decide, ⟨_, k_237, Or.inl rfl⟩⟩, trivial⟩) d_LT_writeOut_20,
  r_aload_n d_LT_writeOut_23 rfl,
  r_getfield (j_all_mem ⟨⟨_, _, _, rfl, w_LT, by decide, ⟨_, k_237, Or.inl rfl⟩⟩, trivial⟩) d_LT_writeOut_24,
  r_invV (j_all_mem ⟨⟨⟨_, _, _, rfl, k_287, k_288, k_289⟩, cw_Me_count, by decide, by decide +kernel⟩, trivial⟩) d_LT_writeOut_27,
  r_iconst d_LT_writeOut_30 (by decide),
  r_isub d_LT_writeOut_31,
  r_aload_n d_LT_writeOut_32 rfl,
  r_getfield (j_all_mem ⟨⟨_, _, _, rfl, w_LT, by decide, ⟨_, k_246, Or.inl rfl⟩⟩, trivial⟩) d_LT_writeOut_33,
  r_invV (j_all_mem ⟨⟨⟨_, _, _, rfl, k_295, k_296, k_297⟩, cw_Me_load, by decide, by decide +kernel⟩, trivial⟩) d_LT_writeOut_36,
  r_aload_n d_LT_writeOut_39 rfl,
  r_aload_n d_LT_writeOut_40 rfl,
  r_getfield (j_all_mem ⟨⟨_, _, _, rfl, w_LT, by decide, ⟨_, k_245, Or.inl rfl⟩⟩, trivial⟩) d_LT_writeOut_41,
  r_invV (j_all_mem ⟨⟨⟨_, _, _, rfl, k_306, k_307, k_308⟩, cw_Lv_firstTableReaching, by decide, by decide +kernel⟩, trivial⟩) d_LT_writeOut_44,
  r_istore_n d_LT_writeOut_47 rfl (by decide),
  r_aload_n d_LT_writeOut_48 rfl,
  r_aload_n d_LT_writeOut_49 rfl,
  r_getfield (j_all_mem ⟨⟨_, _, _, rfl, w_LT, by decide, ⟨_, k_246, Or.inl rfl⟩⟩, trivial⟩) d_LT_writeOut_50,
  r_invV (j_all_mem ⟨⟨⟨_, _, _, rfl, k_396, k_397, k_398⟩, cw_Lv_firstTableBeyond, by decide, by decide +kernel⟩, trivial⟩) d_LT_writeOut_53,
  r_istore_n d_LT_writeOut_56 rfl (by decide),
  r_aload_n d_LT_writeOut_57 rfl,
  r_getfield (j_all_mem ⟨⟨_, _, _, rfl, w_LT, by decide, ⟨_, k_240, Or.inl rfl⟩⟩, trivial⟩) d_LT_writeOut_58,
  r_invV (j_all_mem ⟨⟨⟨_, _, _, rfl, k_400, k_401, k_402⟩, cw_Wk_clear, by decide, by decide +kernel⟩, trivial⟩) d_LT_writeOut_61,
  r_aload_n d_LT_writeOut_64 rfl,
  r_getfield (j_all_mem ⟨⟨_, _, _, rfl, w_LT, by decide, ⟨_, k_240, Or.inl rfl⟩⟩, trivial⟩) d_LT_writeOut_65,
  r_iconst d_LT_writeOut_68 (by decide),
  r_iconst d_LT_writeOut_69 (by decide),
  r_aload_n d_LT_writeOut_70 rfl,
  r_getfield (j_all_mem ⟨⟨_, _, _, rfl, w_LT, by decide, ⟨_, k_237, Or.inl rfl⟩⟩, trivial⟩) d_LT_writeOut_71,
  r_invV (j_all_mem ⟨⟨⟨_, _, _, rfl, k_287, k_288, k_289⟩, cw_Me_count, by decide, by decide +kernel⟩, trivial⟩) d_LT_writeOut_74,
  r_invV (j_all_mem ⟨⟨⟨_, _, _, rfl, k_405, k_406, k_407⟩, cw_Wk_cover, by decide, by decide +kernel⟩, trivial⟩) d_LT_writeOut_77,
  r_aload_n d_LT_writeOut_80 rfl,
  r_getfield (j_all_mem ⟨⟨_, _, _, rfl, w_LT, by decide, ⟨_, k_240, Or.inl rfl⟩⟩, trivial⟩) d_LT_writeOut_81,
  r_iconst d_LT_writeOut_84 (by decide),
  r_aload_n d_LT_writeOut_85 rfl,
  r_iload_n d_LT_writeOut_86 rfl,
  r_invV (j_all_mem ⟨⟨⟨_, _, _, rfl, k_410, k_411, k_412⟩, cw_Lv_startOf, by decide, by decide +kernel⟩, trivial⟩) d_LT_writeOut_87,
  r_aload_n d_LT_writeOut_90 rfl,
  r_iload_n d_LT_writeOut_91 rfl,
  r_invV (j_all_mem ⟨⟨⟨_, _, _, rfl, k_410, k_411, k_412⟩, cw_Lv_startOf, by decide, by decide +kernel⟩, trivial⟩) d_LT_writeOut_92,
  r_invV (j_all_mem ⟨⟨⟨_, _, _, rfl, k_405, k_406, k_407⟩, cw_Wk_cover, by decide, by decide +kernel⟩, trivial⟩) d_LT_writeOut_95,
  r_aload_n d_LT_writeOut_98 rfl,
  r_iconst d_LT_writeOut_99 (by decide),
  r_invV (j_all_mem ⟨⟨⟨_, _, _, rfl, k_414, k_416, kp_LT_writeNeeded⟩, cw_LT_writeNeeded, by decide, by decide +kernel⟩, trivial⟩) d_LT_writeOut_100,
  r_aload_n d_LT_writeOut_103 rfl,
  r_iload_n d_LT_writeOut_104 rfl,
  r_iload_n d_LT_writeOut_105 rfl,
  r_invV (j_all_mem ⟨⟨⟨_, _, _, rfl, k_599, k_600, k_601⟩, cw_Lv_remove, by decide, by decide +kernel⟩, trivial⟩) d_LT_writeOut_106,
  r_aload_n d_LT_writeOut_109 rfl,
  r_iload_n d_LT_writeOut_110 rfl,
  r_aload_n d_LT_writeOut_111 rfl,
  r_getfield (j_all_mem ⟨⟨_, _, _, rfl, w_LT, by decide, ⟨_, k_241, Or.inl rfl⟩⟩, trivial⟩) d_LT_writeOut_112,
  r_invV (j_all_mem ⟨⟨⟨_, _, _, rfl, k_633, k_634, k_635⟩, cw_Wr_tables, by decide, by decide +kernel⟩, trivial⟩) d_LT_writeOut_115,
  r_invV (j_all_mem ⟨⟨⟨_, _, _, rfl, k_637, k_638, k_639⟩, cw_Lv_insert, by decide, by decide +kernel⟩, trivial⟩) d_LT_writeOut_118,
  r_aload_n d_LT_writeOut_121 rfl,
  r_getfield (j_all_mem ⟨⟨_, _, _, rfl, w_LT, by decide, ⟨_, k_237, Or.inl rfl⟩⟩, trivial⟩) d_LT_writeOut_122,
  r_invV (j_all_mem ⟨⟨⟨_, _, _, rfl, k_962, k_963, k_964⟩, cw_Me_clear, by decide, by decide +kernel⟩, trivial⟩) d_LT_writeOut_125,
  r_return d_LT_writeOut_128 rfl, trivial⟩), (fun q h => by cases h), (fun _ => rfl)⟩
