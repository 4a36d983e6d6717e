/-! the methods of Wk, Wr: their instructions, and that each is right (written by wip/whole/gen.py) -/
theorem d_Wk_advance_0 : decode b_Wk_advance 0 = .ok (.aload_n 0, 1) := by decide +kernel
theorem d_Wk_advance_1 : decode b_Wk_advance 1 = .ok (.getfield 52, 3) := by decide +kernel
theorem d_Wk_advance_4 : decode b_Wk_advance 4 = .ok (.ifCond .ne 5, 3) := by decide +kernel
theorem d_Wk_advance_7 : decode b_Wk_advance 7 = .ok (.iconst 0, 1) := by decide +kernel
theorem d_Wk_advance_8 : decode b_Wk_advance 8 = .ok (.ireturn, 1) := by decide +kernel
theorem d_Wk_advance_9 : decode b_Wk_advance 9 = .ok (.aload_n 0, 1) := by decide +kernel
theorem d_Wk_advance_10 : decode b_Wk_advance 10 = .ok (.getfield 25, 3) := by decide +kernel
theorem d_Wk_advance_13 : decode b_Wk_advance 13 = .ok (.aload_n 0, 1) := by decide +kernel
theorem d_Wk_advance_14 : decode b_Wk_advance 14 = .ok (.getfield 29, 3) := by decide +kernel
theorem d_Wk_advance_17 : decode b_Wk_advance 17 = .ok (.invokevirtual 56, 3) := by decide +kernel
theorem d_Wk_advance_20 : decode b_Wk_advance 20 = .ok (.aload_n 0, 1) := by decide +kernel
theorem d_Wk_advance_21 : decode b_Wk_advance 21 = .ok (.aload_n 0, 1) := by decide +kernel
theorem d_Wk_advance_22 : decode b_Wk_advance 22 = .ok (.invokevirtual 48, 3) := by decide +kernel
theorem d_Wk_advance_25 : decode b_Wk_advance 25 = .ok (.putfield 52, 3) := by decide +kernel
theorem d_Wk_advance_28 : decode b_Wk_advance 28 = .ok (.aload_n 0, 1) := by decide +kernel
theorem d_Wk_advance_29 : decode b_Wk_advance 29 = .ok (.aload_n 0, 1) := by decide +kernel
theorem d_Wk_advance_30 : decode b_Wk_advance 30 = .ok (.getfield 52, 3) := by decide +kernel
theorem d_Wk_advance_33 : decode b_Wk_advance 33 = .ok (.ifCond .eq 27, 3) := by decide +kernel
theorem d_Wk_advance_36 : decode b_Wk_advance 36 = .ok (.aload_n 0, 1) := by decide +kernel
theorem d_Wk_advance_37 : decode b_Wk_advance 37 = .ok (.getfield 29, 3) := by decide +kernel
theorem d_Wk_advance_40 : decode b_Wk_advance 40 = .ok (.aload_n 0, 1) := by decide +kernel
theorem d_Wk_advance_41 : decode b_Wk_advance 41 = .ok (.getfield 25, 3) := by decide +kernel
theorem d_Wk_advance_44 : decode b_Wk_advance 44 = .ok (.invokevirtual 60, 3) := by decide +kernel
theorem d_Wk_advance_47 : decode b_Wk_advance 47 = .ok (.ifCond .ne 13, 3) := by decide +kernel
theorem d_Wk_advance_50 : decode b_Wk_advance 50 = .ok (.aload_n 0, 1) := by decide +kernel
theorem d_Wk_advance_51 : decode b_Wk_advance 51 = .ok (.getfield 29, 3) := by decide +kernel
theorem d_Wk_advance_54 : decode b_Wk_advance 54 = .ok (.invokevirtual 64, 3) := by decide +kernel
theorem d_Wk_advance_57 : decode b_Wk_advance 57 = .ok (.goto 6, 3) := by decide +kernel
theorem d_Wk_advance_60 : decode b_Wk_advance 60 = .ok (.sipush 1023, 3) := by decide +kernel
theorem d_Wk_advance_63 : decode b_Wk_advance 63 = .ok (.putfield 68, 3) := by decide +kernel
theorem d_Wk_advance_66 : decode b_Wk_advance 66 = .ok (.iconst 1, 1) := by decide +kernel
theorem d_Wk_advance_67 : decode b_Wk_advance 67 = .ok (.ireturn, 1) := by decide +kernel
def q_Wk_advance : List (Nat × j_S) := [(0, j_ld 2 0 1),
  (1, j_gf [6] 0 4),
  (4, j_br (f_if (fun x => decide (¬ x = 0))) 9 7),
  (7, j_st (f_psh (.int 0)) 8),
  (8, j_rt 3),
  (9, j_ld 2 0 10),
  (10, j_gf [6] 6 13),
  (13, j_ld 2 0 14),
  (14, j_gf [6] 7 17),
  (17, j_cv [(8, 130)] 1),
  (20, j_ld 2 0 21),
  (21, j_ld 2 0 22),
  (22, j_cv [(6, 156)] 0),
  (25, j_pf [6] 0 3 28),
  (28, j_ld 2 0 29),
  (29, j_ld 2 0 30),
  (30, j_gf [6] 0 33),
  (33, j_br (f_if (fun x => decide (x = 0))) 60 36),
  (36, j_ld 2 0 37),
  (37, j_gf [6] 7 40),
  (40, j_ld 2 0 41),
  (41, j_gf [6] 6 44),
  (44, j_cv [(8, 129)] 1),
  (47, j_br (f_if (fun x => decide (¬ x = 0))) 60 50),
  (50, j_ld 2 0 51),
  (51, j_gf [6] 7 54),
  (54, j_cv [(8, 137)] 0),
  (57, j_st f_id 63),
  (60, j_st (f_psh (.int 1023)) 63),
  (63, j_pf [6] 1 0 66),
  (66, j_st (f_psh (.int 1)) 67),
  (67, j_rt 3)]
def i_Wk_advance : j_I := (R_Wk, b_Wk_advance, 1, false, (some .boolean), [])
def e_Wk_advance : j_E := ((y_Wk_advance, c_Wk_advance), i_Wk_advance, j_tab q_Wk_advance, [])
theorem o_Wk_advance (G : j_G) : j_mok G tm e_Wk_advance := ⟨by decide +kernel, Or.inl ⟨rfl, rfl⟩, rfl, (fun h => by cases h), j_tab_ok (i := i_Wk_advance) (l := q_Wk_advance) (j_all_mem ⟨r_aload_n d_Wk_advance_0 rfl,
  r_getfield (j_all_mem ⟨⟨_, _, _, rfl, w_Wk, by decide, ⟨_, k_191, Or.inl rfl⟩⟩, trivial⟩) d_Wk_advance_1,
  r_if_ne d_Wk_advance_4 (by decide),
  r_iconst d_Wk_advance_7 (by decide),
  r_zreturn d_Wk_advance_8 rfl,
  r_aload_n d_Wk_advance_9 rfl,
  r_getfield (j_all_mem ⟨⟨_, _, _, rfl, w_Wk, by decide, ⟨_, k_189, Or.inl rfl⟩⟩, trivial⟩) d_Wk_advance_10,
  r_aload_n d_Wk_advance_13 rfl,
  r_getfield (j_all_mem ⟨⟨_, _, _, rfl, w_Wk, by decide, ⟨_, k_190, Or.inl rfl⟩⟩, trivial⟩) d_Wk_advance_14,
  r_invV (j_all_mem ⟨⟨⟨_, _, _, rfl, k_435, k_436, k_437⟩, cw_Ve_copy, by decide, by decide +kernel⟩, trivial⟩) d_Wk_advance_17,
  r_aload_n d_Wk_advance_20 rfl,
  r_aload_n d_Wk_advance_21 rfl,
  r_invV (j_all_mem ⟨⟨⟨_, _, _, rfl, k_430, k_432, kp_Wk_takeNext⟩, cw_Wk_takeNext, by decide, by decide +kernel⟩, trivial⟩) d_Wk_advance_22,
  r_putfield (fin := false) (j_all_mem ⟨⟨_, _, _, t_Wk, _, rfl, w_Wk, t_Wk_ok, n_Wk, by decide, rfl, t_Wk_ok 0 (by decide), Or.inr (Or.inr (Or.inr ⟨rfl, rfl⟩)), ⟨_, k_191, Or.inl rfl⟩, (fun h => by cases h)⟩, trivial⟩) (fun h => by cases h) d_Wk_advance_25,
  r_aload_n d_Wk_advance_28 rfl,
  r_aload_n d_Wk_advance_29 rfl,
  r_getfield (j_all_mem ⟨⟨_, _, _, rfl, w_Wk, by decide, ⟨_, k_191, Or.inl rfl⟩⟩, trivial⟩) d_Wk_advance_30,
  r_if_eq d_Wk_advance_33 (by decide),
  r_aload_n d_Wk_advance_36 rfl,
  r_getfield (j_all_mem ⟨⟨_, _, _, rfl, w_Wk, by decide, ⟨_, k_190, Or.inl rfl⟩⟩, trivial⟩) d_Wk_advance_37,
  r_aload_n d_Wk_advance_40 rfl,
  r_getfield (j_all_mem ⟨⟨_, _, _, rfl, w_Wk, by decide, ⟨_, k_189, Or.inl rfl⟩⟩, trivial⟩) d_Wk_advance_41,
  r_invV (j_all_mem ⟨⟨⟨_, _, _, rfl, k_444, k_388, k_389⟩, cw_Ve_compareKey, by decide, by decide +kernel⟩, trivial⟩) d_Wk_advance_44,
  r_if_ne d_Wk_advance_47 (by decide),
  r_aload_n d_Wk_advance_50 rfl,
  r_getfield (j_all_mem ⟨⟨_, _, _, rfl, w_Wk, by decide, ⟨_, k_190, Or.inl rfl⟩⟩, trivial⟩) d_Wk_advance_51,
  r_invV (j_all_mem ⟨⟨⟨_, _, _, rfl, k_445, k_393, k_394⟩, cw_Ve_moment, by decide, by decide +kernel⟩, trivial⟩) d_Wk_advance_54,
  r_goto d_Wk_advance_57 (by decide),
  r_sipush d_Wk_advance_60 (by decide),
  r_putfield (fin := false) (j_all_mem ⟨⟨_, _, _, t_Wk, _, rfl, w_Wk, t_Wk_ok, n_Wk, by decide, rfl, t_Wk_ok 1 (by decide), Or.inl ⟨rfl, rfl⟩, ⟨_, k_192, Or.inl rfl⟩, (fun h => by cases h)⟩, trivial⟩) (fun h => by cases h) d_Wk_advance_63,
  r_iconst d_Wk_advance_66 (by decide),
  r_zreturn d_Wk_advance_67 rfl, trivial⟩), (fun q h => by cases h), (fun _ => rfl)⟩
theorem d_Wk_begin_0 : decode b_Wk_begin 0 = .ok (.aload_n 0, 1) := by decide +kernel
theorem d_Wk_begin_1 : decode b_Wk_begin 1 = .ok (.aload_n 0, 1) := by decide +kernel
theorem d_Wk_begin_2 : decode b_Wk_begin 2 = .ok (.invokevirtual 48, 3) := by decide +kernel
theorem d_Wk_begin_5 : decode b_Wk_begin 5 = .ok (.putfield 52, 3) := by decide +kernel
theorem d_Wk_begin_8 : decode b_Wk_begin 8 = .ok (.return_, 1) := by decide +kernel
def q_Wk_begin : List (Nat × j_S) := [(0, j_ld 2 0 1),
  (1, j_ld 2 0 2),
  (2, j_cv [(6, 156)] 0),
  (5, j_pf [6] 0 3 8),
  (8, j_rv)]
def i_Wk_begin : j_I := (R_Wk, b_Wk_begin, 1, false, none, [])
def e_Wk_begin : j_E := ((y_Wk_begin, c_Wk_begin), i_Wk_begin, j_tab q_Wk_begin, [])
theorem o_Wk_begin (G : j_G) : j_mok G tm e_Wk_begin := ⟨by decide +kernel, Or.inl ⟨rfl, rfl⟩, rfl, (fun h => by cases h), j_tab_ok (i := i_Wk_begin) (l := q_Wk_begin) (j_all_mem ⟨r_aload_n d_Wk_begin_0 rfl,
  r_aload_n d_Wk_begin_1 rfl,
  r_invV (j_all_mem ⟨⟨⟨_, _, _, rfl, k_430, k_432, kp_Wk_takeNext⟩, cw_Wk_takeNext, by decide, by decide +kernel⟩, trivial⟩) d_Wk_begin_2,
  r_putfield (fin := false) (j_all_mem ⟨⟨_, _, _, t_Wk, _, rfl, w_Wk, t_Wk_ok, n_Wk, by decide, rfl, t_Wk_ok 0 (by decide), Or.inr (Or.inr (Or.inr ⟨rfl, rfl⟩)), ⟨_, k_191, Or.inl rfl⟩, (fun h => by cases h)⟩, trivial⟩) (fun h => by cases h) d_Wk_begin_5,
  r_return d_Wk_begin_8 rfl, trivial⟩), (fun q h => by cases h), (fun _ => rfl)⟩
theorem d_Wk_clear_0 : decode b_Wk_clear 0 = .ok (.aload_n 0, 1) := by decide +kernel
theorem d_Wk_clear_1 : decode b_Wk_clear 1 = .ok (.getfield 9, 3) := by decide +kernel
theorem d_Wk_clear_4 : decode b_Wk_clear 4 = .ok (.iconst 0, 1) := by decide +kernel
theorem d_Wk_clear_5 : decode b_Wk_clear 5 = .ok (.invokestatic 36, 3) := by decide +kernel
theorem d_Wk_clear_8 : decode b_Wk_clear 8 = .ok (.aload_n 0, 1) := by decide +kernel
theorem d_Wk_clear_9 : decode b_Wk_clear 9 = .ok (.getfield 15, 3) := by decide +kernel
theorem d_Wk_clear_12 : decode b_Wk_clear 12 = .ok (.iconst 0, 1) := by decide +kernel
theorem d_Wk_clear_13 : decode b_Wk_clear 13 = .ok (.invokestatic 36, 3) := by decide +kernel
theorem d_Wk_clear_16 : decode b_Wk_clear 16 = .ok (.return_, 1) := by decide +kernel
def q_Wk_clear : List (Nat × j_S) := [(0, j_ld 2 0 1),
  (1, j_gf [6] 3 4),
  (4, j_st (f_psh (.int 0)) 5),
  (5, j_cs 19 2),
  (8, j_ld 2 0 9),
  (9, j_gf [6] 4 12),
  (12, j_st (f_psh (.int 0)) 13),
  (13, j_cs 19 2),
  (16, j_rv)]
def i_Wk_clear : j_I := (R_Wk, b_Wk_clear, 1, false, none, [])
def e_Wk_clear : j_E := ((y_Wk_clear, c_Wk_clear), i_Wk_clear, j_tab q_Wk_clear, [])
theorem o_Wk_clear (G : j_G) : j_mok G tm e_Wk_clear := ⟨by decide +kernel, Or.inl ⟨rfl, rfl⟩, rfl, (fun h => by cases h), j_tab_ok (i := i_Wk_clear) (l := q_Wk_clear) (j_all_mem ⟨r_aload_n d_Wk_clear_0 rfl,
  r_getfield (j_all_mem ⟨⟨_, _, _, rfl, w_Wk, by decide, ⟨_, k_186, Or.inl rfl⟩⟩, trivial⟩) d_Wk_clear_1,
  r_iconst d_Wk_clear_4 (by decide),
  r_invS k_404 k_64 cw_Ar_fill_2aI (by decide) (by decide +kernel) d_Wk_clear_5,
  r_aload_n d_Wk_clear_8 rfl,
  r_getfield (j_all_mem ⟨⟨_, _, _, rfl, w_Wk, by decide, ⟨_, k_187, Or.inl rfl⟩⟩, trivial⟩) d_Wk_clear_9,
  r_iconst d_Wk_clear_12 (by decide),
  r_invS k_404 k_64 cw_Ar_fill_2aI (by decide) (by decide +kernel) d_Wk_clear_13,
  r_return d_Wk_clear_16 rfl, trivial⟩), (fun q h => by cases h), (fun _ => rfl)⟩
theorem d_Wk_cover_0 : decode b_Wk_cover 0 = .ok (.iload_n 1, 1) := by decide +kernel
theorem d_Wk_cover_1 : decode b_Wk_cover 1 = .ok (.ifCond .lt 43, 3) := by decide +kernel
theorem d_Wk_cover_4 : decode b_Wk_cover 4 = .ok (.iload_n 1, 1) := by decide +kernel
theorem d_Wk_cover_5 : decode b_Wk_cover 5 = .ok (.iconst 5, 1) := by decide +kernel
theorem d_Wk_cover_6 : decode b_Wk_cover 6 = .ok (.if_icmp .ge 38, 3) := by decide +kernel
theorem d_Wk_cover_9 : decode b_Wk_cover 9 = .ok (.iload_n 2, 1) := by decide +kernel
theorem d_Wk_cover_10 : decode b_Wk_cover 10 = .ok (.iload_n 3, 1) := by decide +kernel
theorem d_Wk_cover_11 : decode b_Wk_cover 11 = .ok (.if_icmp .ge 33, 3) := by decide +kernel
theorem d_Wk_cover_14 : decode b_Wk_cover 14 = .ok (.aload_n 0, 1) := by decide +kernel
theorem d_Wk_cover_15 : decode b_Wk_cover 15 = .ok (.getfield 9, 3) := by decide +kernel
theorem d_Wk_cover_18 : decode b_Wk_cover 18 = .ok (.iload_n 1, 1) := by decide +kernel
theorem d_Wk_cover_19 : decode b_Wk_cover 19 = .ok (.iload_n 2, 1) := by decide +kernel
theorem d_Wk_cover_20 : decode b_Wk_cover 20 = .ok (.iastore, 1) := by decide +kernel
theorem d_Wk_cover_21 : decode b_Wk_cover 21 = .ok (.aload_n 0, 1) := by decide +kernel
theorem d_Wk_cover_22 : decode b_Wk_cover 22 = .ok (.getfield 15, 3) := by decide +kernel
theorem d_Wk_cover_25 : decode b_Wk_cover 25 = .ok (.iload_n 1, 1) := by decide +kernel
theorem d_Wk_cover_26 : decode b_Wk_cover 26 = .ok (.iload_n 3, 1) := by decide +kernel
theorem d_Wk_cover_27 : decode b_Wk_cover 27 = .ok (.iastore, 1) := by decide +kernel
theorem d_Wk_cover_28 : decode b_Wk_cover 28 = .ok (.aload_n 0, 1) := by decide +kernel
theorem d_Wk_cover_29 : decode b_Wk_cover 29 = .ok (.getfield 32, 3) := by decide +kernel
theorem d_Wk_cover_32 : decode b_Wk_cover 32 = .ok (.iload_n 1, 1) := by decide +kernel
theorem d_Wk_cover_33 : decode b_Wk_cover 33 = .ok (.aaload, 1) := by decide +kernel
theorem d_Wk_cover_34 : decode b_Wk_cover 34 = .ok (.iload_n 2, 1) := by decide +kernel
theorem d_Wk_cover_35 : decode b_Wk_cover 35 = .ok (.aload_n 0, 1) := by decide +kernel
theorem d_Wk_cover_36 : decode b_Wk_cover 36 = .ok (.getfield 20, 3) := by decide +kernel
theorem d_Wk_cover_39 : decode b_Wk_cover 39 = .ok (.iload_n 1, 1) := by decide +kernel
theorem d_Wk_cover_40 : decode b_Wk_cover 40 = .ok (.aaload, 1) := by decide +kernel
theorem d_Wk_cover_41 : decode b_Wk_cover 41 = .ok (.invokevirtual 42, 3) := by decide +kernel
theorem d_Wk_cover_44 : decode b_Wk_cover 44 = .ok (.return_, 1) := by decide +kernel
def q_Wk_cover : List (Nat × j_S) := [(0, j_ld 0 1 1),
  (1, j_br (f_if (fun x => decide (x < 0))) 44 4),
  (4, j_ld 0 1 5),
  (5, j_st (f_psh (.int 5)) 6),
  (6, j_br (f_ic (fun x y => decide (y ≤ x))) 44 9),
  (9, j_ld 0 2 10),
  (10, j_ld 0 3 11),
  (11, j_br (f_ic (fun x y => decide (y ≤ x))) 44 14),
  (14, j_ld 2 0 15),
  (15, j_gf [6] 3 18),
  (18, j_ld 0 1 19),
  (19, j_ld 0 2 20),
  (20, j_ai 21),
  (21, j_ld 2 0 22),
  (22, j_gf [6] 4 25),
  (25, j_ld 0 1 26),
  (26, j_ld 0 3 27),
  (27, j_ai 28),
  (28, j_ld 2 0 29),
  (29, j_gf [6] 2 32),
  (32, j_ld 0 1 33),
  (33, j_alq 34),
  (34, j_ld 0 2 35),
  (35, j_ld 2 0 36),
  (36, j_gf [6] 5 39),
  (39, j_ld 0 1 40),
  (40, j_alq 41),
  (41, j_cv [(5, 76), (4, 86)] 2),
  (44, j_rv)]
def i_Wk_cover : j_I := (R_Wk, b_Wk_cover, 4, false, none, [])
def e_Wk_cover : j_E := ((y_Wk_cover, c_Wk_cover), i_Wk_cover, j_tab q_Wk_cover, [])
theorem o_Wk_cover (G : j_G) : j_mok G tm e_Wk_cover := ⟨by decide +kernel, Or.inl ⟨rfl, rfl⟩, rfl, (fun h => by cases h), j_tab_ok (i := i_Wk_cover) (l := q_Wk_cover) (j_all_mem ⟨r_iload_n d_Wk_cover_0 rfl,
  r_if_lt d_Wk_cover_1 (by decide),
  r_iload_n d_Wk_cover_4 rfl,
  r_iconst d_Wk_cover_5 (by decide),
  r_ic_ge d_Wk_cover_6 (by decide),
  r_iload_n d_Wk_cover_9 rfl,
  r_iload_n d_Wk_cover_10 rfl,
  r_ic_ge d_Wk_cover_11 (by decide),
  r_aload_n d_Wk_cover_14 rfl,
  r_getfield (j_all_mem ⟨⟨_, _, _, rfl, w_Wk, by decide, ⟨_, k_186, Or.inl rfl⟩⟩, trivial⟩) d_Wk_cover_15,
  r_iload_n d_Wk_cover_18 rfl,
  r_iload_n d_Wk_cover_19 rfl,
  r_iastore d_Wk_cover_20,
  r_aload_n d_Wk_cover_21 rfl,
  r_getfield (j_all_mem ⟨⟨_, _, _, rfl, w_Wk, by decide, ⟨_, k_187, Or.inl rfl⟩⟩, trivial⟩) d_Wk_cover_22,
  r_iload_n d_Wk_cover_25 rfl,
  r_iload_n d_Wk_cover_26 rfl,
  r_iastore d_Wk_cover_27,
  r_aload_n d_Wk_cover_28 rfl,
  r_getfield (j_all_mem ⟨⟨_, _, _, rfl, w_Wk, by decide, ⟨_, k_185, Or.inl rfl⟩⟩, trivial⟩) d_Wk_cover_29,
  r_iload_n d_Wk_cover_32 rfl,
  r_aaload2 d_Wk_cover_33,
  r_iload_n d_Wk_cover_34 rfl,
  r_aload_n d_Wk_cover_35 rfl,
  r_getfield (j_all_mem ⟨⟨_, _, _, rfl, w_Wk, by decide, ⟨_, k_188, Or.inl rfl⟩⟩, trivial⟩) d_Wk_cover_36,
  r_iload_n d_Wk_cover_39 rfl,
  r_aaload2 d_Wk_cover_40,
  r_invU (y0 := ⟨"LevelTables$Run", "load", "(ILLevelTables$Version;)V"⟩) (owner := "LevelTables$Run") (j_all_mem ⟨⟨⟨_, _, _, rfl, k_409, k_337, k_338, k_339⟩, cw_Lv_load, by decide, by decide +kernel⟩, ⟨⟨_, _, _, rfl, k_409, k_337, k_382, k_296⟩, cw_Me_load, by decide, by decide +kernel⟩, trivial⟩) (fun A U h hK => va_Decl.abs (hK.nw k_336)) d_Wk_cover_41,
  r_return d_Wk_cover_44 rfl, trivial⟩), (fun q h => by cases h), (fun _ => rfl)⟩
theorem d_Wk_init_0 : decode b_Wk_init 0 = .ok (.aload_n 0, 1) := by decide +kernel
theorem d_Wk_init_1 : decode b_Wk_init 1 = .ok (.invokespecial 3, 3) := by decide +kernel
theorem d_Wk_init_4 : decode b_Wk_init 4 = .ok (.aload_n 0, 1) := by decide +kernel
theorem d_Wk_init_5 : decode b_Wk_init 5 = .ok (.iconst 5, 1) := by decide +kernel
theorem d_Wk_init_6 : decode b_Wk_init 6 = .ok (.newarray .int, 2) := by decide +kernel
theorem d_Wk_init_8 : decode b_Wk_init 8 = .ok (.putfield 9, 3) := by decide +kernel
theorem d_Wk_init_11 : decode b_Wk_init 11 = .ok (.aload_n 0, 1) := by decide +kernel
theorem d_Wk_init_12 : decode b_Wk_init 12 = .ok (.iconst 5, 1) := by decide +kernel
theorem d_Wk_init_13 : decode b_Wk_init 13 = .ok (.newarray .int, 2) := by decide +kernel
theorem d_Wk_init_15 : decode b_Wk_init 15 = .ok (.putfield 15, 3) := by decide +kernel
theorem d_Wk_init_18 : decode b_Wk_init 18 = .ok (.aload_n 0, 1) := by decide +kernel
theorem d_Wk_init_19 : decode b_Wk_init 19 = .ok (.iconst 5, 1) := by decide +kernel
theorem d_Wk_init_20 : decode b_Wk_init 20 = .ok (.anewarray 18, 3) := by decide +kernel
theorem d_Wk_init_23 : decode b_Wk_init 23 = .ok (.putfield 20, 3) := by decide +kernel
theorem d_Wk_init_26 : decode b_Wk_init 26 = .ok (.aload_n 0, 1) := by decide +kernel
theorem d_Wk_init_27 : decode b_Wk_init 27 = .ok (.new 18, 3) := by decide +kernel
theorem d_Wk_init_30 : decode b_Wk_init 30 = .ok (.dup, 1) := by decide +kernel
theorem d_Wk_init_31 : decode b_Wk_init 31 = .ok (.invokespecial 24, 3) := by decide +kernel
theorem d_Wk_init_34 : decode b_Wk_init 34 = .ok (.putfield 25, 3) := by decide +kernel
theorem d_Wk_init_37 : decode b_Wk_init 37 = .ok (.aload_n 0, 1) := by decide +kernel
theorem d_Wk_init_38 : decode b_Wk_init 38 = .ok (.new 18, 3) := by decide +kernel
theorem d_Wk_init_41 : decode b_Wk_init 41 = .ok (.dup, 1) := by decide +kernel
theorem d_Wk_init_42 : decode b_Wk_init 42 = .ok (.invokespecial 24, 3) := by decide +kernel
theorem d_Wk_init_45 : decode b_Wk_init 45 = .ok (.putfield 29, 3) := by decide +kernel
theorem d_Wk_init_48 : decode b_Wk_init 48 = .ok (.aload_n 0, 1) := by decide +kernel
theorem d_Wk_init_49 : decode b_Wk_init 49 = .ok (.aload_n 1, 1) := by decide +kernel
theorem d_Wk_init_50 : decode b_Wk_init 50 = .ok (.putfield 32, 3) := by decide +kernel
theorem d_Wk_init_53 : decode b_Wk_init 53 = .ok (.iconst 0, 1) := by decide +kernel
theorem d_Wk_init_54 : decode b_Wk_init 54 = .ok (.istore_n 2, 1) := by decide +kernel
theorem d_Wk_init_55 : decode b_Wk_init 55 = .ok (.iload_n 2, 1) := by decide +kernel
theorem d_Wk_init_56 : decode b_Wk_init 56 = .ok (.iconst 5, 1) := by decide +kernel
theorem d_Wk_init_57 : decode b_Wk_init 57 = .ok (.if_icmp .ge 22, 3) := by decide +kernel
theorem d_Wk_init_60 : decode b_Wk_init 60 = .ok (.aload_n 0, 1) := by decide +kernel
theorem d_Wk_init_61 : decode b_Wk_init 61 = .ok (.getfield 20, 3) := by decide +kernel
theorem d_Wk_init_64 : decode b_Wk_init 64 = .ok (.iload_n 2, 1) := by decide +kernel
theorem d_Wk_init_65 : decode b_Wk_init 65 = .ok (.new 18, 3) := by decide +kernel
theorem d_Wk_init_68 : decode b_Wk_init 68 = .ok (.dup, 1) := by decide +kernel
theorem d_Wk_init_69 : decode b_Wk_init 69 = .ok (.invokespecial 24, 3) := by decide +kernel
theorem d_Wk_init_72 : decode b_Wk_init 72 = .ok (.aastore, 1) := by decide +kernel
theorem d_Wk_init_73 : decode b_Wk_init 73 = .ok (.iinc 2 1, 3) := by decide +kernel
theorem d_Wk_init_76 : decode b_Wk_init 76 = .ok (.goto (-21), 3) := by decide +kernel
theorem d_Wk_init_79 : decode b_Wk_init 79 = .ok (.return_, 1) := by decide +kernel
def q_Wk_init : List (Nat × j_S) := [(0, j_ld 2 0 1),
  (1, j_oi 4),
  (4, j_ld 2 0 5),
  (5, j_st (f_psh (.int 5)) 6),
  (6, j_na 0 8),
  (8, j_pf [6] 3 2 11),
  (11, j_ld 2 0 12),
  (12, j_st (f_psh (.int 5)) 13),
  (13, j_na 0 15),
  (15, j_pf [6] 4 2 18),
  (18, j_ld 2 0 19),
  (19, j_st (f_psh (.int 5)) 20),
  (20, j_na 3 23),
  (23, j_pf [6] 5 2 26),
  (26, j_ld 2 0 27),
  (27, j_nw 8 1 [.null] 30),
  (30, j_st (f_dup) 31),
  (31, j_ci 133 0),
  (34, j_pf [6] 6 2 37),
  (37, j_ld 2 0 38),
  (38, j_nw 8 1 [.null] 41),
  (41, j_st (f_dup) 42),
  (42, j_ci 133 0),
  (45, j_pf [6] 7 2 48),
  (48, j_ld 2 0 49),
  (49, j_ld 2 1 50),
  (50, j_pf [6] 2 2 53),
  (53, j_st (f_psh (.int 0)) 54),
  (54, j_so 0 2 55),
  (55, j_ld 0 2 56),
  (56, j_st (f_psh (.int 5)) 57),
  (57, j_br (f_ic (fun x y => decide (y ≤ x))) 79 60),
  (60, j_ld 2 0 61),
  (61, j_gf [6] 5 64),
  (64, j_ld 0 2 65),
  (65, j_nw 8 1 [.null] 68),
  (68, j_st (f_dup) 69),
  (69, j_ci 133 0),
  (72, j_aq 73),
  (73, j_ic 2 1 76),
  (76, j_st f_id 55),
  (79, j_rv)]
def i_Wk_init : j_I := (R_Wk, b_Wk_init, 3, true, none, [])
def e_Wk_init : j_E := ((y_Wk_init, c_Wk_init), i_Wk_init, j_tab q_Wk_init, [])
theorem o_Wk_init (G : j_G) : j_mok G tm e_Wk_init := ⟨by decide +kernel, Or.inl ⟨rfl, rfl⟩, rfl, (fun _ => rfl), j_tab_ok (i := i_Wk_init) (l := q_Wk_init) (j_all_mem ⟨r_aload_n d_Wk_init_0 rfl,
  r_objInit k_181 k_oi k_oc d_Wk_init_1,
  r_aload_n d_Wk_init_4 rfl,
  r_iconst d_Wk_init_5 (by decide),
  r_newarray rfl rfl k_73 (by decide) (fun _ => rfl) (fun U cA h1 h2 => Option.some.inj (h2.symm.trans h1)) d_Wk_init_6,
  r_putfield (fin := true) (j_all_mem ⟨⟨_, _, _, t_Wk, _, rfl, w_Wk, t_Wk_ok, n_Wk, by decide, rfl, t_Wk_ok 3 (by decide), Or.inr (Or.inr (Or.inl ⟨rfl, by first | exact Or.inl ⟨_, rfl⟩ | exact Or.inr ⟨_, rfl⟩⟩)), ⟨_, k_186, Or.inl rfl⟩, (fun _ => rfl)⟩, trivial⟩) (fun _ => rfl) d_Wk_init_8,
  r_aload_n d_Wk_init_11 rfl,
  r_iconst d_Wk_init_12 (by decide),
  r_newarray rfl rfl k_73 (by decide) (fun _ => rfl) (fun U cA h1 h2 => Option.some.inj (h2.symm.trans h1)) d_Wk_init_13,
  r_putfield (fin := true) (j_all_mem ⟨⟨_, _, _, t_Wk, _, rfl, w_Wk, t_Wk_ok, n_Wk, by decide, rfl, t_Wk_ok 4 (by decide), Or.inr (Or.inr (Or.inl ⟨rfl, by first | exact Or.inl ⟨_, rfl⟩ | exact Or.inr ⟨_, rfl⟩⟩)), ⟨_, k_187, Or.inl rfl⟩, (fun _ => rfl)⟩, trivial⟩) (fun _ => rfl) d_Wk_init_15,
  r_aload_n d_Wk_init_18 rfl,
  r_iconst d_Wk_init_19 (by decide),
  r_anewarray rfl rfl k_182 k_183 d_Wk_init_20,
  r_putfield (fin := true) (j_all_mem ⟨⟨_, _, _, t_Wk, _, rfl, w_Wk, t_Wk_ok, n_Wk, by decide, rfl, t_Wk_ok 5 (by decide), Or.inr (Or.inr (Or.inl ⟨rfl, by first | exact Or.inl ⟨_, rfl⟩ | exact Or.inr ⟨_, rfl⟩⟩)), ⟨_, k_188, Or.inl rfl⟩, (fun _ => rfl)⟩, trivial⟩) (fun _ => rfl) d_Wk_init_23,
  r_aload_n d_Wk_init_26 rfl,
  r_new (ty := t_Ve) rfl w_Ve t_Ve_ok k_182 k_108 k_8 (fun j hj => by revert j; decide) (by intro v hv a; revert v; simp) d_Wk_init_27,
  r_dup d_Wk_init_30,
  r_invIN k_184 k_110 rfl rfl cw_Ve_init (by decide) (by decide +kernel) d_Wk_init_31,
  r_putfield (fin := true) (j_all_mem ⟨⟨_, _, _, t_Wk, _, rfl, w_Wk, t_Wk_ok, n_Wk, by decide, rfl, t_Wk_ok 6 (by decide), Or.inr (Or.inr (Or.inl ⟨rfl, by first | exact Or.inl ⟨_, rfl⟩ | exact Or.inr ⟨_, rfl⟩⟩)), ⟨_, k_189, Or.inl rfl⟩, (fun _ => rfl)⟩, trivial⟩) (fun _ => rfl) d_Wk_init_34,
  r_aload_n d_Wk_init_37 rfl,
  r_new (ty := t_Ve) rfl w_Ve t_Ve_ok k_182 k_108 k_8 (fun j hj => by revert j; decide) (by intro v hv a; revert v; simp) d_Wk_init_38,
  r_dup d_Wk_init_41,
  r_invIN k_184 k_110 rfl rfl cw_Ve_init (by decide) (by decide +kernel) d_Wk_init_42,
  r_putfield (fin := true) (j_all_mem ⟨⟨_, _, _, t_Wk, _, rfl, w_Wk, t_Wk_ok, n_Wk, by decide, rfl, t_Wk_ok 7 (by decide), Or.inr (Or.inr (Or.inl ⟨rfl, by first | exact Or.inl ⟨_, rfl⟩ | exact Or.inr ⟨_, rfl⟩⟩)), ⟨_, k_190, Or.inl rfl⟩, (fun _ => rfl)⟩, trivial⟩) (fun _ => rfl) d_Wk_init_45,
  r_aload_n d_Wk_init_48 rfl,
  r_aload_n d_Wk_init_49 rfl,
  r_putfield (fin := true) (j_all_mem ⟨⟨_, _, _, t_Wk, _, rfl, w_Wk, t_Wk_ok, n_Wk, by decide, rfl, t_Wk_ok 2 (by decide), Or.inr (Or.inr (Or.inl ⟨rfl, by first | exact Or.inl ⟨_, rfl⟩ | exact Or.inr ⟨_, rfl⟩⟩)), ⟨_, k_185, Or.inl rfl⟩, (fun _ => rfl)⟩, trivial⟩) (fun _ => rfl) d_Wk_init_50,
  r_iconst d_Wk_init_53 (by decide),
  r_istore_n d_Wk_init_54 rfl (by decide),
  r_iload_n d_Wk_init_55 rfl,
  r_iconst d_Wk_init_56 (by decide),
  r_ic_ge d_Wk_init_57 (by decide),
  r_aload_n d_Wk_init_60 rfl,
  r_getfield (j_all_mem ⟨⟨_, _, _, rfl, w_Wk, by decide, ⟨_, k_188, Or.inl rfl⟩⟩, trivial⟩) d_Wk_init_61,
  r_iload_n d_Wk_init_64 rfl,
  r_new (ty := t_Ve) rfl w_Ve t_Ve_ok k_182 k_108 k_8 (fun j hj => by revert j; decide) (by intro v hv a; revert v; simp) d_Wk_init_65,
  r_dup d_Wk_init_68,
  r_invIN k_184 k_110 rfl rfl cw_Ve_init (by decide) (by decide +kernel) d_Wk_init_69,
  r_aastore2 d_Wk_init_72,
  j_ok_ic d_Wk_init_73 rfl (by decide) (by decide),
  r_goto d_Wk_init_76 (by decide),
  r_return d_Wk_init_79 rfl, trivial⟩), (fun q h => by cases h), (fun _ => rfl)⟩
theorem d_Wk_isSomethingAt_0 : decode b_Wk_isSomethingAt 0 = .ok (.aload_n 0, 1) := by decide +kernel
theorem d_Wk_isSomethingAt_1 : decode b_Wk_isSomethingAt 1 = .ok (.getfield 25, 3) := by decide +kernel
theorem d_Wk_isSomethingAt_4 : decode b_Wk_isSomethingAt 4 = .ok (.invokevirtual 76, 3) := by decide +kernel
theorem d_Wk_isSomethingAt_7 : decode b_Wk_isSomethingAt 7 = .ok (.ifCond .eq 26, 3) := by decide +kernel
theorem d_Wk_isSomethingAt_10 : decode b_Wk_isSomethingAt 10 = .ok (.aload_n 0, 1) := by decide +kernel
theorem d_Wk_isSomethingAt_11 : decode b_Wk_isSomethingAt 11 = .ok (.getfield 25, 3) := by decide +kernel
theorem d_Wk_isSomethingAt_14 : decode b_Wk_isSomethingAt 14 = .ok (.invokevirtual 64, 3) := by decide +kernel
theorem d_Wk_isSomethingAt_17 : decode b_Wk_isSomethingAt 17 = .ok (.iload_n 1, 1) := by decide +kernel
theorem d_Wk_isSomethingAt_18 : decode b_Wk_isSomethingAt 18 = .ok (.if_icmp .gt 15, 3) := by decide +kernel
theorem d_Wk_isSomethingAt_21 : decode b_Wk_isSomethingAt 21 = .ok (.iload_n 1, 1) := by decide +kernel
theorem d_Wk_isSomethingAt_22 : decode b_Wk_isSomethingAt 22 = .ok (.aload_n 0, 1) := by decide +kernel
theorem d_Wk_isSomethingAt_23 : decode b_Wk_isSomethingAt 23 = .ok (.getfield 68, 3) := by decide +kernel
theorem d_Wk_isSomethingAt_26 : decode b_Wk_isSomethingAt 26 = .ok (.if_icmp .ge 7, 3) := by decide +kernel
theorem d_Wk_isSomethingAt_29 : decode b_Wk_isSomethingAt 29 = .ok (.iconst 1, 1) := by decide +kernel
theorem d_Wk_isSomethingAt_30 : decode b_Wk_isSomethingAt 30 = .ok (.goto 4, 3) := by decide +kernel
theorem d_Wk_isSomethingAt_33 : decode b_Wk_isSomethingAt 33 = .ok (.iconst 0, 1) := by decide +kernel
theorem d_Wk_isSomethingAt_34 : decode b_Wk_isSomethingAt 34 = .ok (.ireturn, 1) := by decide +kernel
def q_Wk_isSomethingAt : List (Nat × j_S) := [(0, j_ld 2 0 1),
  (1, j_gf [6] 6 4),
  (4, j_cv [(8, 135)] 0),
  (7, j_br (f_if (fun x => decide (x = 0))) 33 10),
  (10, j_ld 2 0 11),
  (11, j_gf [6] 6 14),
  (14, j_cv [(8, 137)] 0),
  (17, j_ld 0 1 18),
  (18, j_br (f_ic (fun x y => decide (y < x))) 33 21),
  (21, j_ld 0 1 22),
  (22, j_ld 2 0 23),
  (23, j_gf [6] 1 26),
  (26, j_br (f_ic (fun x y => decide (y ≤ x))) 33 29),
  (29, j_st (f_psh (.int 1)) 30),
  (30, j_st f_id 34),
  (33, j_st (f_psh (.int 0)) 34),
  (34, j_rt 3)]
def i_Wk_isSomethingAt : j_I := (R_Wk, b_Wk_isSomethingAt, 2, false, (some .boolean), [])
def e_Wk_isSomethingAt : j_E := ((y_Wk_isSomethingAt, c_Wk_isSomethingAt), i_Wk_isSomethingAt, j_tab q_Wk_isSomethingAt, [])
theorem o_Wk_isSomethingAt (G : j_G) : j_mok G tm e_Wk_isSomethingAt := ⟨by decide +kernel, Or.inl ⟨rfl, rfl⟩, rfl, (fun h => by cases h), j_tab_ok (i := i_Wk_isSomethingAt) (l := q_Wk_isSomethingAt) (j_all_mem ⟨r_aload_n d_Wk_isSomethingAt_0 rfl,
  r_getfield (j_all_mem ⟨⟨_, _, _, rfl, w_Wk, by decide, ⟨_, k_189, Or.inl rfl⟩⟩, trivial⟩) d_Wk_isSomethingAt_1,
  r_invV (j_all_mem ⟨⟨⟨_, _, _, rfl, k_1040, k_466, k_467⟩, cw_Ve_isThere, by decide, by decide +kernel⟩, trivial⟩) d_Wk_isSomethingAt_4,
  r_if_eq d_Wk_isSomethingAt_7 (by decide),
  r_aload_n d_Wk_isSomethingAt_10 rfl,
  r_getfield (j_all_mem ⟨⟨_, _, _, rfl, w_Wk, by decide, ⟨_, k_189, Or.inl rfl⟩⟩, trivial⟩) d_Wk_isSomethingAt_11,
  r_invV (j_all_mem ⟨⟨⟨_, _, _, rfl, k_445, k_393, k_394⟩, cw_Ve_moment, by decide, by decide +kernel⟩, trivial⟩) d_Wk_isSomethingAt_14,
  r_iload_n d_Wk_isSomethingAt_17 rfl,
  r_ic_gt d_Wk_isSomethingAt_18 (by decide),
  r_iload_n d_Wk_isSomethingAt_21 rfl,
  r_aload_n d_Wk_isSomethingAt_22 rfl,
  r_getfield (j_all_mem ⟨⟨_, _, _, rfl, w_Wk, by decide, ⟨_, k_192, Or.inl rfl⟩⟩, trivial⟩) d_Wk_isSomethingAt_23,
  r_ic_ge d_Wk_isSomethingAt_26 (by decide),
  r_iconst d_Wk_isSomethingAt_29 (by decide),
  r_goto d_Wk_isSomethingAt_30 (by decide),
  r_iconst d_Wk_isSomethingAt_33 (by decide),
  r_zreturn d_Wk_isSomethingAt_34 rfl, trivial⟩), (fun q h => by cases h), (fun _ => rfl)⟩
theorem d_Wk_takeNext_0 : decode b_Wk_takeNext 0 = .ok (.iconst (-1), 1) := by decide +kernel
theorem d_Wk_takeNext_1 : decode b_Wk_takeNext 1 = .ok (.istore_n 1, 1) := by decide +kernel
theorem d_Wk_takeNext_2 : decode b_Wk_takeNext 2 = .ok (.iconst 0, 1) := by decide +kernel
theorem d_Wk_takeNext_3 : decode b_Wk_takeNext 3 = .ok (.istore_n 2, 1) := by decide +kernel
theorem d_Wk_takeNext_4 : decode b_Wk_takeNext 4 = .ok (.iload_n 2, 1) := by decide +kernel
theorem d_Wk_takeNext_5 : decode b_Wk_takeNext 5 = .ok (.iconst 5, 1) := by decide +kernel
theorem d_Wk_takeNext_6 : decode b_Wk_takeNext 6 = .ok (.if_icmp .ge 48, 3) := by decide +kernel
theorem d_Wk_takeNext_9 : decode b_Wk_takeNext 9 = .ok (.aload_n 0, 1) := by decide +kernel
theorem d_Wk_takeNext_10 : decode b_Wk_takeNext 10 = .ok (.getfield 9, 3) := by decide +kernel
theorem d_Wk_takeNext_13 : decode b_Wk_takeNext 13 = .ok (.iload_n 2, 1) := by decide +kernel
theorem d_Wk_takeNext_14 : decode b_Wk_takeNext 14 = .ok (.iaload, 1) := by decide +kernel
theorem d_Wk_takeNext_15 : decode b_Wk_takeNext 15 = .ok (.aload_n 0, 1) := by decide +kernel
theorem d_Wk_takeNext_16 : decode b_Wk_takeNext 16 = .ok (.getfield 15, 3) := by decide +kernel
theorem d_Wk_takeNext_19 : decode b_Wk_takeNext 19 = .ok (.iload_n 2, 1) := by decide +kernel
theorem d_Wk_takeNext_20 : decode b_Wk_takeNext 20 = .ok (.iaload, 1) := by decide +kernel
theorem d_Wk_takeNext_21 : decode b_Wk_takeNext 21 = .ok (.if_icmp .ge 27, 3) := by decide +kernel
theorem d_Wk_takeNext_24 : decode b_Wk_takeNext 24 = .ok (.iload_n 1, 1) := by decide +kernel
theorem d_Wk_takeNext_25 : decode b_Wk_takeNext 25 = .ok (.ifCond .lt 21, 3) := by decide +kernel
theorem d_Wk_takeNext_28 : decode b_Wk_takeNext 28 = .ok (.aload_n 0, 1) := by decide +kernel
theorem d_Wk_takeNext_29 : decode b_Wk_takeNext 29 = .ok (.getfield 20, 3) := by decide +kernel
theorem d_Wk_takeNext_32 : decode b_Wk_takeNext 32 = .ok (.iload_n 2, 1) := by decide +kernel
theorem d_Wk_takeNext_33 : decode b_Wk_takeNext 33 = .ok (.aaload, 1) := by decide +kernel
theorem d_Wk_takeNext_34 : decode b_Wk_takeNext 34 = .ok (.aload_n 0, 1) := by decide +kernel
theorem d_Wk_takeNext_35 : decode b_Wk_takeNext 35 = .ok (.getfield 20, 3) := by decide +kernel
theorem d_Wk_takeNext_38 : decode b_Wk_takeNext 38 = .ok (.iload_n 1, 1) := by decide +kernel
theorem d_Wk_takeNext_39 : decode b_Wk_takeNext 39 = .ok (.aaload, 1) := by decide +kernel
theorem d_Wk_takeNext_40 : decode b_Wk_takeNext 40 = .ok (.invokevirtual 72, 3) := by decide +kernel
theorem d_Wk_takeNext_43 : decode b_Wk_takeNext 43 = .ok (.ifCond .eq 5, 3) := by decide +kernel
theorem d_Wk_takeNext_46 : decode b_Wk_takeNext 46 = .ok (.iload_n 2, 1) := by decide +kernel
theorem d_Wk_takeNext_47 : decode b_Wk_takeNext 47 = .ok (.istore_n 1, 1) := by decide +kernel
theorem d_Wk_takeNext_48 : decode b_Wk_takeNext 48 = .ok (.iinc 2 1, 3) := by decide +kernel
theorem d_Wk_takeNext_51 : decode b_Wk_takeNext 51 = .ok (.goto (-47), 3) := by decide +kernel
theorem d_Wk_takeNext_54 : decode b_Wk_takeNext 54 = .ok (.iload_n 1, 1) := by decide +kernel
theorem d_Wk_takeNext_55 : decode b_Wk_takeNext 55 = .ok (.ifCond .ge 5, 3) := by decide +kernel
theorem d_Wk_takeNext_58 : decode b_Wk_takeNext 58 = .ok (.iconst 0, 1) := by decide +kernel
theorem d_Wk_takeNext_59 : decode b_Wk_takeNext 59 = .ok (.ireturn, 1) := by decide +kernel
theorem d_Wk_takeNext_60 : decode b_Wk_takeNext 60 = .ok (.aload_n 0, 1) := by decide +kernel
theorem d_Wk_takeNext_61 : decode b_Wk_takeNext 61 = .ok (.getfield 29, 3) := by decide +kernel
theorem d_Wk_takeNext_64 : decode b_Wk_takeNext 64 = .ok (.aload_n 0, 1) := by decide +kernel
theorem d_Wk_takeNext_65 : decode b_Wk_takeNext 65 = .ok (.getfield 20, 3) := by decide +kernel
theorem d_Wk_takeNext_68 : decode b_Wk_takeNext 68 = .ok (.iload_n 1, 1) := by decide +kernel
theorem d_Wk_takeNext_69 : decode b_Wk_takeNext 69 = .ok (.aaload, 1) := by decide +kernel
theorem d_Wk_takeNext_70 : decode b_Wk_takeNext 70 = .ok (.invokevirtual 56, 3) := by decide +kernel
theorem d_Wk_takeNext_73 : decode b_Wk_takeNext 73 = .ok (.aload_n 0, 1) := by decide +kernel
theorem d_Wk_takeNext_74 : decode b_Wk_takeNext 74 = .ok (.getfield 9, 3) := by decide +kernel
theorem d_Wk_takeNext_77 : decode b_Wk_takeNext 77 = .ok (.iload_n 1, 1) := by decide +kernel
theorem d_Wk_takeNext_78 : decode b_Wk_takeNext 78 = .ok (.dup2, 1) := by decide +kernel
theorem d_Wk_takeNext_79 : decode b_Wk_takeNext 79 = .ok (.iaload, 1) := by decide +kernel
theorem d_Wk_takeNext_80 : decode b_Wk_takeNext 80 = .ok (.iconst 1, 1) := by decide +kernel
theorem d_Wk_takeNext_81 : decode b_Wk_takeNext 81 = .ok (.iadd, 1) := by decide +kernel
theorem d_Wk_takeNext_82 : decode b_Wk_takeNext 82 = .ok (.iastore, 1) := by decide +kernel
theorem d_Wk_takeNext_83 : decode b_Wk_takeNext 83 = .ok (.aload_n 0, 1) := by decide +kernel
theorem d_Wk_takeNext_84 : decode b_Wk_takeNext 84 = .ok (.getfield 9, 3) := by decide +kernel
theorem d_Wk_takeNext_87 : decode b_Wk_takeNext 87 = .ok (.iload_n 1, 1) := by decide +kernel
theorem d_Wk_takeNext_88 : decode b_Wk_takeNext 88 = .ok (.iaload, 1) := by decide +kernel
theorem d_Wk_takeNext_89 : decode b_Wk_takeNext 89 = .ok (.aload_n 0, 1) := by decide +kernel
theorem d_Wk_takeNext_90 : decode b_Wk_takeNext 90 = .ok (.getfield 15, 3) := by decide +kernel
theorem d_Wk_takeNext_93 : decode b_Wk_takeNext 93 = .ok (.iload_n 1, 1) := by decide +kernel
theorem d_Wk_takeNext_94 : decode b_Wk_takeNext 94 = .ok (.iaload, 1) := by decide +kernel
theorem d_Wk_takeNext_95 : decode b_Wk_takeNext 95 = .ok (.if_icmp .ge 24, 3) := by decide +kernel
theorem d_Wk_takeNext_98 : decode b_Wk_takeNext 98 = .ok (.aload_n 0, 1) := by decide +kernel
theorem d_Wk_takeNext_99 : decode b_Wk_takeNext 99 = .ok (.getfield 32, 3) := by decide +kernel
theorem d_Wk_takeNext_102 : decode b_Wk_takeNext 102 = .ok (.iload_n 1, 1) := by decide +kernel
theorem d_Wk_takeNext_103 : decode b_Wk_takeNext 103 = .ok (.aaload, 1) := by decide +kernel
theorem d_Wk_takeNext_104 : decode b_Wk_takeNext 104 = .ok (.aload_n 0, 1) := by decide +kernel
theorem d_Wk_takeNext_105 : decode b_Wk_takeNext 105 = .ok (.getfield 9, 3) := by decide +kernel
theorem d_Wk_takeNext_108 : decode b_Wk_takeNext 108 = .ok (.iload_n 1, 1) := by decide +kernel
theorem d_Wk_takeNext_109 : decode b_Wk_takeNext 109 = .ok (.iaload, 1) := by decide +kernel
theorem d_Wk_takeNext_110 : decode b_Wk_takeNext 110 = .ok (.aload_n 0, 1) := by decide +kernel
theorem d_Wk_takeNext_111 : decode b_Wk_takeNext 111 = .ok (.getfield 20, 3) := by decide +kernel
theorem d_Wk_takeNext_114 : decode b_Wk_takeNext 114 = .ok (.iload_n 1, 1) := by decide +kernel
theorem d_Wk_takeNext_115 : decode b_Wk_takeNext 115 = .ok (.aaload, 1) := by decide +kernel
theorem d_Wk_takeNext_116 : decode b_Wk_takeNext 116 = .ok (.invokevirtual 42, 3) := by decide +kernel
theorem d_Wk_takeNext_119 : decode b_Wk_takeNext 119 = .ok (.iconst 1, 1) := by decide +kernel
theorem d_Wk_takeNext_120 : decode b_Wk_takeNext 120 = .ok (.ireturn, 1) := by decide +kernel
def q_Wk_takeNext : List (Nat × j_S) := [(0, j_st (f_psh (.int (-1))) 1),
  (1, j_so 0 1 2),
  (2, j_st (f_psh (.int 0)) 3),
  (3, j_so 0 2 4),
  (4, j_ld 0 2 5),
  (5, j_st (f_psh (.int 5)) 6),
  (6, j_br (f_ic (fun x y => decide (y ≤ x))) 54 9),
  (9, j_ld 2 0 10),
  (10, j_gf [6] 3 13),
  (13, j_ld 0 2 14),
  (14, j_al 0 15),
  (15, j_ld 2 0 16),
  (16, j_gf [6] 4 19),
  (19, j_ld 0 2 20),
  (20, j_al 0 21),
  (21, j_br (f_ic (fun x y => decide (y ≤ x))) 48 24),
  (24, j_ld 0 1 25),
  (25, j_br (f_if (fun x => decide (x < 0))) 46 28),
  (28, j_ld 2 0 29),
  (29, j_gf [6] 5 32),
  (32, j_ld 0 2 33),
  (33, j_alq 34),
  (34, j_ld 2 0 35),
  (35, j_gf [6] 5 38),
  (38, j_ld 0 1 39),
  (39, j_alq 40),
  (40, j_cv [(8, 134)] 1),
  (43, j_br (f_if (fun x => decide (x = 0))) 48 46),
  (46, j_ld 0 2 47),
  (47, j_so 0 1 48),
  (48, j_ic 2 1 51),
  (51, j_st f_id 4),
  (54, j_ld 0 1 55),
  (55, j_br (f_if (fun x => decide (0 ≤ x))) 60 58),
  (58, j_st (f_psh (.int 0)) 59),
  (59, j_rt 3),
  (60, j_ld 2 0 61),
  (61, j_gf [6] 7 64),
  (64, j_ld 2 0 65),
  (65, j_gf [6] 5 68),
  (68, j_ld 0 1 69),
  (69, j_alq 70),
  (70, j_cv [(8, 130)] 1),
  (73, j_ld 2 0 74),
  (74, j_gf [6] 3 77),
  (77, j_ld 0 1 78),
  (78, j_st (f_dup2) 79),
  (79, j_al 0 80),
  (80, j_st (f_psh (.int 1)) 81),
  (81, j_st (f_ii (fun a b => a + b)) 82),
  (82, j_ai 83),
  (83, j_ld 2 0 84),
  (84, j_gf [6] 3 87),
  (87, j_ld 0 1 88),
  (88, j_al 0 89),
  (89, j_ld 2 0 90),
  (90, j_gf [6] 4 93),
  (93, j_ld 0 1 94),
  (94, j_al 0 95),
  (95, j_br (f_ic (fun x y => decide (y ≤ x))) 119 98),
  (98, j_ld 2 0 99),
  (99, j_gf [6] 2 102),
  (102, j_ld 0 1 103),
  (103, j_alq 104),
  (104, j_ld 2 0 105),
  (105, j_gf [6] 3 108),
  (108, j_ld 0 1 109),
  (109, j_al 0 110),
  (110, j_ld 2 0 111),
  (111, j_gf [6] 5 114),
  (114, j_ld 0 1 115),
  (115, j_alq 116),
  (116, j_cv [(5, 76), (4, 86)] 2),
  (119, j_st (f_psh (.int 1)) 120),
  (120, j_rt 3)]
def i_Wk_takeNext : j_I := (R_Wk, b_Wk_takeNext, 3, false, (some .boolean), [])
def e_Wk_takeNext : j_E := ((y_Wk_takeNext, c_Wk_takeNext), i_Wk_takeNext, j_tab q_Wk_takeNext, [])
theorem o_Wk_takeNext (G : j_G) : j_mok G tm e_Wk_takeNext := ⟨by decide +kernel, Or.inl ⟨rfl, rfl⟩, rfl, (fun h => by cases h), j_tab_ok (i := i_Wk_takeNext) (l := q_Wk_takeNext) (j_all_mem ⟨r_iconst d_Wk_takeNext_0 (by decide),
  r_istore_n d_Wk_takeNext_1 rfl (by decide),
  r_iconst d_Wk_takeNext_2 (by decide),
  r_istore_n d_Wk_takeNext_3 rfl (by decide),
  r_iload_n d_Wk_takeNext_4 rfl,
  r_iconst d_Wk_takeNext_5 (by decide),
  r_ic_ge d_Wk_takeNext_6 (by decide),
  r_aload_n d_Wk_takeNext_9 rfl,
  r_getfield (j_all_mem ⟨⟨_, _, _, rfl, w_Wk, by decide, ⟨_, k_186, Or.inl rfl⟩⟩, trivial⟩) d_Wk_takeNext_10,
  r_iload_n d_Wk_takeNext_13 rfl,
  r_iaload d_Wk_takeNext_14,
  r_aload_n d_Wk_takeNext_15 rfl,
  r_getfield (j_all_mem ⟨⟨_, _, _, rfl, w_Wk, by decide, ⟨_, k_187, Or.inl rfl⟩⟩, trivial⟩) d_Wk_takeNext_16,
  r_iload_n d_Wk_takeNext_19 rfl,
  r_iaload d_Wk_takeNext_20,
  r_ic_ge d_Wk_takeNext_21 (by decide),
  r_iload_n d_Wk_takeNext_24 rfl,
  r_if_lt d_Wk_takeNext_25 (by decide),
  r_aload_n d_Wk_takeNext_28 rfl,
  r_getfield (j_all_mem ⟨⟨_, _, _, rfl, w_Wk, by decide, ⟨_, k_188, Or.inl rfl⟩⟩, trivial⟩) d_Wk_takeNext_29,
  r_iload_n d_Wk_takeNext_32 rfl,
  r_aaload2 d_Wk_takeNext_33,
  r_aload_n d_Wk_takeNext_34 rfl,
  r_getfield (j_all_mem ⟨⟨_, _, _, rfl, w_Wk, by decide, ⟨_, k_188, Or.inl rfl⟩⟩, trivial⟩) d_Wk_takeNext_35,
  r_iload_n d_Wk_takeNext_38 rfl,
  r_aaload2 d_Wk_takeNext_39,
  r_invV (j_all_mem ⟨⟨⟨_, _, _, rfl, k_434, k_384, k_385⟩, cw_Ve_isBefore, by decide, by decide +kernel⟩, trivial⟩) d_Wk_takeNext_40,
  r_if_eq d_Wk_takeNext_43 (by decide),
  r_iload_n d_Wk_takeNext_46 rfl,
  r_istore_n d_Wk_takeNext_47 rfl (by decide),
  j_ok_ic d_Wk_takeNext_48 rfl (by decide) (by decide),
  r_goto d_Wk_takeNext_51 (by decide),
  r_iload_n d_Wk_takeNext_54 rfl,
  r_if_ge d_Wk_takeNext_55 (by decide),
  r_iconst d_Wk_takeNext_58 (by decide),
  r_zreturn d_Wk_takeNext_59 rfl,
  r_aload_n d_Wk_takeNext_60 rfl,
  r_getfield (j_all_mem ⟨⟨_, _, _, rfl, w_Wk, by decide, ⟨_, k_190, Or.inl rfl⟩⟩, trivial⟩) d_Wk_takeNext_61,
  r_aload_n d_Wk_takeNext_64 rfl,
  r_getfield (j_all_mem ⟨⟨_, _, _, rfl, w_Wk, by decide, ⟨_, k_188, Or.inl rfl⟩⟩, trivial⟩) d_Wk_takeNext_65,
  r_iload_n d_Wk_takeNext_68 rfl,
  r_aaload2 d_Wk_takeNext_69,
  r_invV (j_all_mem ⟨⟨⟨_, _, _, rfl, k_435, k_436, k_437⟩, cw_Ve_copy, by decide, by decide +kernel⟩, trivial⟩) d_Wk_takeNext_70,
  r_aload_n d_Wk_takeNext_73 rfl,
  r_getfield (j_all_mem ⟨⟨_, _, _, rfl, w_Wk, by decide, ⟨_, k_186, Or.inl rfl⟩⟩, trivial⟩) d_Wk_takeNext_74,
  r_iload_n d_Wk_takeNext_77 rfl,
  r_dup2 d_Wk_takeNext_78,
  r_iaload d_Wk_takeNext_79,
  r_iconst d_Wk_takeNext_80 (by decide),
  r_iadd d_Wk_takeNext_81,
  r_iastore d_Wk_takeNext_82,
  r_aload_n d_Wk_takeNext_83 rfl,
  r_getfield (j_all_mem ⟨⟨_, _, _, rfl, w_Wk, by decide, ⟨_, k_186, Or.inl rfl⟩⟩, trivial⟩) d_Wk_takeNext_84,
  r_iload_n d_Wk_takeNext_87 rfl,
  r_iaload d_Wk_takeNext_88,
  r_aload_n d_Wk_takeNext_89 rfl,
  r_getfield (j_all_mem ⟨⟨_, _, _, rfl, w_Wk, by decide, ⟨_, k_187, Or.inl rfl⟩⟩, trivial⟩) d_Wk_takeNext_90,
  r_iload_n d_Wk_takeNext_93 rfl,
  r_iaload d_Wk_takeNext_94,
  r_ic_ge d_Wk_takeNext_95 (by decide),
  r_aload_n d_Wk_takeNext_98 rfl,
  r_getfield (j_all_mem ⟨⟨_, _, _, rfl, w_Wk, by decide, ⟨_, k_185, Or.inl rfl⟩⟩, trivial⟩) d_Wk_takeNext_99,
  r_iload_n d_Wk_takeNext_102 rfl,
  r_aaload2 d_Wk_takeNext_103,
  r_aload_n d_Wk_takeNext_104 rfl,
  r_getfield (j_all_mem ⟨⟨_, _, _, rfl, w_Wk, by decide, ⟨_, k_186, Or.inl rfl⟩⟩, trivial⟩) d_Wk_takeNext_105,
  r_iload_n d_Wk_takeNext_108 rfl,
  r_iaload d_Wk_takeNext_109,
  r_aload_n d_Wk_takeNext_110 rfl,
  r_getfield (j_all_mem ⟨⟨_, _, _, rfl, w_Wk, by decide, ⟨_, k_188, Or.inl rfl⟩⟩, trivial⟩) d_Wk_takeNext_111,
  r_iload_n d_Wk_takeNext_114 rfl,
  r_aaload2 d_Wk_takeNext_115,
  r_invU (y0 := ⟨"LevelTables$Run", "load", "(ILLevelTables$Version;)V"⟩) (owner := "LevelTables$Run") (j_all_mem ⟨⟨⟨_, _, _, rfl, k_409, k_337, k_338, k_339⟩, cw_Lv_load, by decide, by decide +kernel⟩, ⟨⟨_, _, _, rfl, k_409, k_337, k_382, k_296⟩, cw_Me_load, by decide, by decide +kernel⟩, trivial⟩) (fun A U h hK => va_Decl.abs (hK.nw k_336)) d_Wk_takeNext_116,
  r_iconst d_Wk_takeNext_119 (by decide),
  r_zreturn d_Wk_takeNext_120 rfl, trivial⟩), (fun q h => by cases h), (fun _ => rfl)⟩
theorem d_Wk_until_0 : decode b_Wk_until 0 = .ok (.aload_n 0, 1) := by decide +kernel
theorem d_Wk_until_1 : decode b_Wk_until 1 = .ok (.getfield 68, 3) := by decide +kernel
theorem d_Wk_until_4 : decode b_Wk_until 4 = .ok (.ireturn, 1) := by decide +kernel
def q_Wk_until : List (Nat × j_S) := [(0, j_ld 2 0 1),
  (1, j_gf [6] 1 4),
  (4, j_rt 0)]
def i_Wk_until : j_I := (R_Wk, b_Wk_until, 1, false, (some .int), [])
def e_Wk_until : j_E := ((y_Wk_until, c_Wk_until), i_Wk_until, j_tab q_Wk_until, [])
theorem o_Wk_until (G : j_G) : j_mok G tm e_Wk_until := ⟨by decide +kernel, Or.inl ⟨rfl, rfl⟩, rfl, (fun h => by cases h), j_tab_ok (i := i_Wk_until) (l := q_Wk_until) (j_all_mem ⟨r_aload_n d_Wk_until_0 rfl,
  r_getfield (j_all_mem ⟨⟨_, _, _, rfl, w_Wk, by decide, ⟨_, k_192, Or.inl rfl⟩⟩, trivial⟩) d_Wk_until_1,
  r_ireturn d_Wk_until_4 rfl, trivial⟩), (fun q h => by cases h), (fun _ => rfl)⟩
theorem d_Wk_version_0 : decode b_Wk_version 0 = .ok (.aload_n 0, 1) := by decide +kernel
theorem d_Wk_version_1 : decode b_Wk_version 1 = .ok (.getfield 25, 3) := by decide +kernel
theorem d_Wk_version_4 : decode b_Wk_version 4 = .ok (.areturn, 1) := by decide +kernel
def q_Wk_version : List (Nat × j_S) := [(0, j_ld 2 0 1),
  (1, j_gf [6] 6 4),
  (4, j_rt 2)]
def i_Wk_version : j_I := (R_Wk, b_Wk_version, 1, false, (some (.object "LevelTables$Version")), [])
def e_Wk_version : j_E := ((y_Wk_version, c_Wk_version), i_Wk_version, j_tab q_Wk_version, [])
theorem o_Wk_version (G : j_G) : j_mok G tm e_Wk_version := ⟨by decide +kernel, Or.inl ⟨rfl, rfl⟩, rfl, (fun h => by cases h), j_tab_ok (i := i_Wk_version) (l := q_Wk_version) (j_all_mem ⟨r_aload_n d_Wk_version_0 rfl,
  r_getfield (j_all_mem ⟨⟨_, _, _, rfl, w_Wk, by decide, ⟨_, k_189, Or.inl rfl⟩⟩, trivial⟩) d_Wk_version_1,
  r_areturn d_Wk_version_4 rfl (by first | exact Or.inl ⟨_, rfl⟩ | exact Or.inr ⟨_, rfl⟩), trivial⟩), (fun q h => by cases h), (fun _ => rfl)⟩
theorem d_Wr_add_0 : decode b_Wr_add 0 = .ok (.iload_n 2, 1) := by decide +kernel
theorem d_Wr_add_1 : decode b_Wr_add 1 = .ok (.ifCond .eq 16, 3) := by decide +kernel
theorem d_Wr_add_4 : decode b_Wr_add 4 = .ok (.aload_n 0, 1) := by decide +kernel
theorem d_Wr_add_5 : decode b_Wr_add 5 = .ok (.getfield 29, 3) := by decide +kernel
theorem d_Wr_add_8 : decode b_Wr_add 8 = .ok (.bipush 32, 2) := by decide +kernel
theorem d_Wr_add_10 : decode b_Wr_add 10 = .ok (.if_icmp .lt 7, 3) := by decide +kernel
theorem d_Wr_add_13 : decode b_Wr_add 13 = .ok (.aload_n 0, 1) := by decide +kernel
theorem d_Wr_add_14 : decode b_Wr_add 14 = .ok (.invokevirtual 33, 3) := by decide +kernel
theorem d_Wr_add_17 : decode b_Wr_add 17 = .ok (.aload_n 0, 1) := by decide +kernel
theorem d_Wr_add_18 : decode b_Wr_add 18 = .ok (.getfield 29, 3) := by decide +kernel
theorem d_Wr_add_21 : decode b_Wr_add 21 = .ok (.bipush 8, 2) := by decide +kernel
theorem d_Wr_add_23 : decode b_Wr_add 23 = .ok (.idiv, 1) := by decide +kernel
theorem d_Wr_add_24 : decode b_Wr_add 24 = .ok (.istore_n 3, 1) := by decide +kernel
theorem d_Wr_add_25 : decode b_Wr_add 25 = .ok (.iload_n 3, 1) := by decide +kernel
theorem d_Wr_add_26 : decode b_Wr_add 26 = .ok (.aload_n 0, 1) := by decide +kernel
theorem d_Wr_add_27 : decode b_Wr_add 27 = .ok (.getfield 18, 3) := by decide +kernel
theorem d_Wr_add_30 : decode b_Wr_add 30 = .ok (.arraylength, 1) := by decide +kernel
theorem d_Wr_add_31 : decode b_Wr_add 31 = .ok (.if_icmp .ge 71, 3) := by decide +kernel
theorem d_Wr_add_34 : decode b_Wr_add 34 = .ok (.aload_n 0, 1) := by decide +kernel
theorem d_Wr_add_35 : decode b_Wr_add 35 = .ok (.getfield 29, 3) := by decide +kernel
theorem d_Wr_add_38 : decode b_Wr_add 38 = .ok (.bipush 8, 2) := by decide +kernel
theorem d_Wr_add_40 : decode b_Wr_add 40 = .ok (.irem, 1) := by decide +kernel
theorem d_Wr_add_41 : decode b_Wr_add 41 = .ok (.bipush 6, 2) := by decide +kernel
theorem d_Wr_add_43 : decode b_Wr_add 43 = .ok (.imul, 1) := by decide +kernel
theorem d_Wr_add_44 : decode b_Wr_add 44 = .ok (.istore 4, 2) := by decide +kernel
theorem d_Wr_add_46 : decode b_Wr_add 46 = .ok (.iload 4, 2) := by decide +kernel
theorem d_Wr_add_48 : decode b_Wr_add 48 = .ok (.ifCond .ne 16, 3) := by decide +kernel
theorem d_Wr_add_51 : decode b_Wr_add 51 = .ok (.aload_n 0, 1) := by decide +kernel
theorem d_Wr_add_52 : decode b_Wr_add 52 = .ok (.getfield 18, 3) := by decide +kernel
theorem d_Wr_add_55 : decode b_Wr_add 55 = .ok (.iload_n 3, 1) := by decide +kernel
theorem d_Wr_add_56 : decode b_Wr_add 56 = .ok (.aload_n 0, 1) := by decide +kernel
theorem d_Wr_add_57 : decode b_Wr_add 57 = .ok (.getfield 22, 3) := by decide +kernel
theorem d_Wr_add_60 : decode b_Wr_add 60 = .ok (.invokevirtual 36, 3) := by decide +kernel
theorem d_Wr_add_63 : decode b_Wr_add 63 = .ok (.iastore, 1) := by decide +kernel
theorem d_Wr_add_64 : decode b_Wr_add 64 = .ok (.aload_n 0, 1) := by decide +kernel
theorem d_Wr_add_65 : decode b_Wr_add 65 = .ok (.getfield 22, 3) := by decide +kernel
theorem d_Wr_add_68 : decode b_Wr_add 68 = .ok (.aload_n 0, 1) := by decide +kernel
theorem d_Wr_add_69 : decode b_Wr_add 69 = .ok (.getfield 18, 3) := by decide +kernel
theorem d_Wr_add_72 : decode b_Wr_add 72 = .ok (.iload_n 3, 1) := by decide +kernel
theorem d_Wr_add_73 : decode b_Wr_add 73 = .ok (.iaload, 1) := by decide +kernel
theorem d_Wr_add_74 : decode b_Wr_add 74 = .ok (.iload 4, 2) := by decide +kernel
theorem d_Wr_add_76 : decode b_Wr_add 76 = .ok (.aload_n 1, 1) := by decide +kernel
theorem d_Wr_add_77 : decode b_Wr_add 77 = .ok (.invokevirtual 42, 3) := by decide +kernel
theorem d_Wr_add_80 : decode b_Wr_add 80 = .ok (.aload_n 0, 1) := by decide +kernel
theorem d_Wr_add_81 : decode b_Wr_add 81 = .ok (.aload_n 1, 1) := by decide +kernel
theorem d_Wr_add_82 : decode b_Wr_add 82 = .ok (.aload_n 0, 1) := by decide +kernel
theorem d_Wr_add_83 : decode b_Wr_add 83 = .ok (.getfield 46, 3) := by decide +kernel
theorem d_Wr_add_86 : decode b_Wr_add 86 = .ok (.invokevirtual 50, 3) := by decide +kernel
theorem d_Wr_add_89 : decode b_Wr_add 89 = .ok (.putfield 46, 3) := by decide +kernel
theorem d_Wr_add_92 : decode b_Wr_add 92 = .ok (.aload_n 0, 1) := by decide +kernel
theorem d_Wr_add_93 : decode b_Wr_add 93 = .ok (.dup, 1) := by decide +kernel
theorem d_Wr_add_94 : decode b_Wr_add 94 = .ok (.getfield 29, 3) := by decide +kernel
theorem d_Wr_add_97 : decode b_Wr_add 97 = .ok (.iconst 1, 1) := by decide +kernel
theorem d_Wr_add_98 : decode b_Wr_add 98 = .ok (.iadd, 1) := by decide +kernel
theorem d_Wr_add_99 : decode b_Wr_add 99 = .ok (.putfield 29, 3) := by decide +kernel
theorem d_Wr_add_102 : decode b_Wr_add 102 = .ok (.return_, 1) := by decide +kernel
def q_Wr_add : List (Nat × j_S) := [(0, j_ld 0 2 1),
  (1, j_br (f_if (fun x => decide (x = 0))) 17 4),
  (4, j_ld 2 0 5),
  (5, j_gf [7] 0 8),
  (8, j_st (f_psh (.int 32)) 10),
  (10, j_br (f_ic (fun x y => decide (x < y))) 17 13),
  (13, j_ld 2 0 14),
  (14, j_cv [(7, 162)] 0),
  (17, j_ld 2 0 18),
  (18, j_gf [7] 0 21),
  (21, j_st (f_psh (.int 8)) 23),
  (23, j_st (f_iin (fun a b => a / b)) 24),
  (24, j_so 0 3 25),
  (25, j_ld 0 3 26),
  (26, j_ld 2 0 27),
  (27, j_gf [7] 4 30),
  (30, j_an 31),
  (31, j_br (f_ic (fun x y => decide (y ≤ x))) 102 34),
  (34, j_ld 2 0 35),
  (35, j_gf [7] 0 38),
  (38, j_st (f_psh (.int 8)) 40),
  (40, j_st (f_iin (fun a b => a - a / b * b)) 41),
  (41, j_st (f_psh (.int 6)) 43),
  (43, j_st (f_ii (fun a b => a * b)) 44),
  (44, j_so 0 4 46),
  (46, j_ld 0 4 48),
  (48, j_br (f_if (fun x => decide (¬ x = 0))) 64 51),
  (51, j_ld 2 0 52),
  (52, j_gf [7] 4 55),
  (55, j_ld 0 3 56),
  (56, j_ld 2 0 57),
  (57, j_gf [7] 2 60),
  (60, j_cv [(3, 30)] 0),
  (63, j_ai 64),
  (64, j_ld 2 0 65),
  (65, j_gf [7] 2 68),
  (68, j_ld 2 0 69),
  (69, j_gf [7] 4 72),
  (72, j_ld 0 3 73),
  (73, j_al 0 74),
  (74, j_ld 0 4 76),
  (76, j_ld 2 1 77),
  (77, j_cv [(3, 32)] 3),
  (80, j_ld 2 0 81),
  (81, j_ld 2 1 82),
  (82, j_ld 2 0 83),
  (83, j_gf [7] 1 86),
  (86, j_cv [(8, 127)] 1),
  (89, j_pf [7] 1 1 92),
  (92, j_ld 2 0 93),
  (93, j_st (f_dup) 94),
  (94, j_gf [7] 0 97),
  (97, j_st (f_psh (.int 1)) 98),
  (98, j_st (f_ii (fun a b => a + b)) 99),
  (99, j_pf [7] 0 0 102),
  (102, j_rv)]
def i_Wr_add : j_I := (R_Wr, b_Wr_add, 5, false, none, [])
def e_Wr_add : j_E := ((y_Wr_add, c_Wr_add), i_Wr_add, j_tab q_Wr_add, [])
theorem o_Wr_add (G : j_G) : j_mok G tm e_Wr_add := ⟨by decide +kernel, Or.inl ⟨rfl, rfl⟩, rfl, (fun h => by cases h), j_tab_ok (i := i_Wr_add) (l := q_Wr_add) (j_all_mem ⟨r_iload_n d_Wr_add_0 rfl,
  r_if_eq d_Wr_add_1 (by decide),
  r_aload_n d_Wr_add_4 rfl,
  r_getfield (j_all_mem ⟨⟨_, _, _, rfl, w_Wr, by decide, ⟨_, k_221, Or.inl rfl⟩⟩, trivial⟩) d_Wr_add_5,
  r_bipush d_Wr_add_8 (by decide),
  r_ic_lt d_Wr_add_10 (by decide),
  r_aload_n d_Wr_add_13 rfl,
  r_invV (j_all_mem ⟨⟨⟨_, _, _, rfl, k_481, k_482, k_483⟩, cw_Wr_seal, by decide, by decide +kernel⟩, trivial⟩) d_Wr_add_14,
  r_aload_n d_Wr_add_17 rfl,
  r_getfield (j_all_mem ⟨⟨_, _, _, rfl, w_Wr, by decide, ⟨_, k_221, Or.inl rfl⟩⟩, trivial⟩) d_Wr_add_18,
  r_bipush d_Wr_add_21 (by decide),
  r_idiv d_Wr_add_23,
  r_istore_n d_Wr_add_24 rfl (by decide),
  r_iload_n d_Wr_add_25 rfl,
  r_aload_n d_Wr_add_26 rfl,
  r_getfield (j_all_mem ⟨⟨_, _, _, rfl, w_Wr, by decide, ⟨_, k_220, Or.inl rfl⟩⟩, trivial⟩) d_Wr_add_27,
  r_alen d_Wr_add_30,
  r_ic_ge d_Wr_add_31 (by decide),
  r_aload_n d_Wr_add_34 rfl,
  r_getfield (j_all_mem ⟨⟨_, _, _, rfl, w_Wr, by decide, ⟨_, k_221, Or.inl rfl⟩⟩, trivial⟩) d_Wr_add_35,
  r_bipush d_Wr_add_38 (by decide),
  r_irem d_Wr_add_40,
  r_bipush d_Wr_add_41 (by decide),
  r_imul d_Wr_add_43,
  r_istore d_Wr_add_44 (by decide),
  r_iload d_Wr_add_46,
  r_if_ne d_Wr_add_48 (by decide),
  r_aload_n d_Wr_add_51 rfl,
  r_getfield (j_all_mem ⟨⟨_, _, _, rfl, w_Wr, by decide, ⟨_, k_220, Or.inl rfl⟩⟩, trivial⟩) d_Wr_add_52,
  r_iload_n d_Wr_add_55 rfl,
  r_aload_n d_Wr_add_56 rfl,
  r_getfield (j_all_mem ⟨⟨_, _, _, rfl, w_Wr, by decide, ⟨_, k_218, Or.inl rfl⟩⟩, trivial⟩) d_Wr_add_57,
  r_invV (j_all_mem ⟨⟨⟨_, _, _, rfl, k_577, k_578, k_579⟩, cw_Ch_take, by decide, by decide +kernel⟩, trivial⟩) d_Wr_add_60,
  r_iastore d_Wr_add_63,
  r_aload_n d_Wr_add_64 rfl,
  r_getfield (j_all_mem ⟨⟨_, _, _, rfl, w_Wr, by decide, ⟨_, k_218, Or.inl rfl⟩⟩, trivial⟩) d_Wr_add_65,
  r_aload_n d_Wr_add_68 rfl,
  r_getfield (j_all_mem ⟨⟨_, _, _, rfl, w_Wr, by decide, ⟨_, k_220, Or.inl rfl⟩⟩, trivial⟩) d_Wr_add_69,
  r_iload_n d_Wr_add_72 rfl,
  r_iaload d_Wr_add_73,
  r_iload d_Wr_add_74,
  r_aload_n d_Wr_add_76 rfl,
  r_invV (j_all_mem ⟨⟨⟨_, _, _, rfl, k_589, k_590, k_591⟩, cw_Ch_write, by decide, by decide +kernel⟩, trivial⟩) d_Wr_add_77,
  r_aload_n d_Wr_add_80 rfl,
  r_aload_n d_Wr_add_81 rfl,
  r_aload_n d_Wr_add_82 rfl,
  r_getfield (j_all_mem ⟨⟨_, _, _, rfl, w_Wr, by decide, ⟨_, k_222, Or.inl rfl⟩⟩, trivial⟩) d_Wr_add_83,
  r_invV (j_all_mem ⟨⟨⟨_, _, _, rfl, k_593, k_594, k_595⟩, cw_Ve_addTo, by decide, by decide +kernel⟩, trivial⟩) d_Wr_add_86,
  r_putfield (fin := false) (j_all_mem ⟨⟨_, _, _, t_Wr, _, rfl, w_Wr, t_Wr_ok, n_Wr, by decide, rfl, t_Wr_ok 1 (by decide), Or.inr (Or.inl ⟨rfl, rfl⟩), ⟨_, k_222, Or.inl rfl⟩, (fun h => by cases h)⟩, trivial⟩) (fun h => by cases h) d_Wr_add_89,
  r_aload_n d_Wr_add_92 rfl,
  r_dup d_Wr_add_93,
  r_getfield (j_all_mem ⟨⟨_, _, _, rfl, w_Wr, by decide, ⟨_, k_221, Or.inl rfl⟩⟩, trivial⟩) d_Wr_add_94,
  r_iconst d_Wr_add_97 (by decide),
  r_iadd d_Wr_add_98,
  r_putfield (fin := false) (j_all_mem ⟨⟨_, _, _, t_Wr, _, rfl, w_Wr, t_Wr_ok, n_Wr, by decide, rfl, t_Wr_ok 0 (by decide), Or.inl ⟨rfl, rfl⟩, ⟨_, k_221, Or.inl rfl⟩, (fun h => by cases h)⟩, trivial⟩) (fun h => by cases h) d_Wr_add_99,
  r_return d_Wr_add_102 rfl, trivial⟩), (fun q h => by cases h), (fun _ => rfl)⟩
theorem d_Wr_begin_0 : decode b_Wr_begin 0 = .ok (.aload_n 0, 1) := by decide +kernel
theorem d_Wr_begin_1 : decode b_Wr_begin 1 = .ok (.getfield 12, 3) := by decide +kernel
theorem d_Wr_begin_4 : decode b_Wr_begin 4 = .ok (.invokevirtual 26, 3) := by decide +kernel
theorem d_Wr_begin_7 : decode b_Wr_begin 7 = .ok (.return_, 1) := by decide +kernel
def q_Wr_begin : List (Nat × j_S) := [(0, j_ld 2 0 1),
  (1, j_gf [7] 3 4),
  (4, j_cv [(10, 3)] 0),
  (7, j_rv)]
def i_Wr_begin : j_I := (R_Wr, b_Wr_begin, 1, false, none, [])
def e_Wr_begin : j_E := ((y_Wr_begin, c_Wr_begin), i_Wr_begin, j_tab q_Wr_begin, [])
theorem o_Wr_begin (G : j_G) : j_mok G tm e_Wr_begin := ⟨by decide +kernel, Or.inl ⟨rfl, rfl⟩, rfl, (fun h => by cases h), j_tab_ok (i := i_Wr_begin) (l := q_Wr_begin) (j_all_mem ⟨r_aload_n d_Wr_begin_0 rfl,
  r_getfield (j_all_mem ⟨⟨_, _, _, rfl, w_Wr, by decide, ⟨_, k_219, Or.inl rfl⟩⟩, trivial⟩) d_Wr_begin_1,
  r_invV (j_all_mem ⟨⟨⟨_, _, _, rfl, k_422, k_423, k_424⟩, cw_AL_clear, by decide, by decide +kernel⟩, trivial⟩) d_Wr_begin_4,
  r_return d_Wr_begin_7 rfl, trivial⟩), (fun q h => by cases h), (fun _ => rfl)⟩
theorem d_Wr_init_0 : decode b_Wr_init 0 = .ok (.aload_n 0, 1) := by decide +kernel
theorem d_Wr_init_1 : decode b_Wr_init 1 = .ok (.invokespecial 3, 3) := by decide +kernel
theorem d_Wr_init_4 : decode b_Wr_init 4 = .ok (.aload_n 0, 1) := by decide +kernel
theorem d_Wr_init_5 : decode b_Wr_init 5 = .ok (.new 9, 3) := by decide +kernel
theorem d_Wr_init_8 : decode b_Wr_init 8 = .ok (.dup, 1) := by decide +kernel
theorem d_Wr_init_9 : decode b_Wr_init 9 = .ok (.invokespecial 11, 3) := by decide +kernel
theorem d_Wr_init_12 : decode b_Wr_init 12 = .ok (.putfield 12, 3) := by decide +kernel
theorem d_Wr_init_15 : decode b_Wr_init 15 = .ok (.aload_n 0, 1) := by decide +kernel
theorem d_Wr_init_16 : decode b_Wr_init 16 = .ok (.bipush 63, 2) := by decide +kernel
theorem d_Wr_init_18 : decode b_Wr_init 18 = .ok (.newarray .int, 2) := by decide +kernel
theorem d_Wr_init_20 : decode b_Wr_init 20 = .ok (.putfield 18, 3) := by decide +kernel
theorem d_Wr_init_23 : decode b_Wr_init 23 = .ok (.aload_n 0, 1) := by decide +kernel
theorem d_Wr_init_24 : decode b_Wr_init 24 = .ok (.aload_n 1, 1) := by decide +kernel
theorem d_Wr_init_25 : decode b_Wr_init 25 = .ok (.putfield 22, 3) := by decide +kernel
theorem d_Wr_init_28 : decode b_Wr_init 28 = .ok (.return_, 1) := by decide +kernel
def q_Wr_init : List (Nat × j_S) := [(0, j_ld 2 0 1),
  (1, j_oi 4),
  (4, j_ld 2 0 5),
  (5, j_nw 10 3 [.int 0, .null, .int 0] 8),
  (8, j_st (f_dup) 9),
  (9, j_ci 9 0),
  (12, j_pf [7] 3 2 15),
  (15, j_ld 2 0 16),
  (16, j_st (f_psh (.int 63)) 18),
  (18, j_na 0 20),
  (20, j_pf [7] 4 2 23),
  (23, j_ld 2 0 24),
  (24, j_ld 2 1 25),
  (25, j_pf [7] 2 2 28),
  (28, j_rv)]
def i_Wr_init : j_I := (R_Wr, b_Wr_init, 2, true, none, [])
def e_Wr_init : j_E := ((y_Wr_init, c_Wr_init), i_Wr_init, j_tab q_Wr_init, [])
theorem o_Wr_init (G : j_G) : j_mok G tm e_Wr_init := ⟨by decide +kernel, Or.inl ⟨rfl, rfl⟩, rfl, (fun _ => rfl), j_tab_ok (i := i_Wr_init) (l := q_Wr_init) (j_all_mem ⟨r_aload_n d_Wr_init_0 rfl,
  r_objInit k_215 k_oi k_oc d_Wr_init_1,
  r_aload_n d_Wr_init_4 rfl,
  r_new (ty := t_AL) rfl w_AL t_AL_ok k_216 k_140 k_12 (fun j hj => by revert j; decide) (by intro v hv a; revert v; simp) d_Wr_init_5,
  r_dup d_Wr_init_8,
  r_invI k_217 k_142 rfl rfl cw_AL_init (by decide) (by decide +kernel) d_Wr_init_9,
  r_putfield (fin := true) (j_all_mem ⟨⟨_, _, _, t_Wr, _, rfl, w_Wr, t_Wr_ok, n_Wr, by decide, rfl, t_Wr_ok 3 (by decide), Or.inr (Or.inr (Or.inl ⟨rfl, by first | exact Or.inl ⟨_, rfl⟩ | exact Or.inr ⟨_, rfl⟩⟩)), ⟨_, k_219, Or.inl rfl⟩, (fun _ => rfl)⟩, trivial⟩) (fun _ => rfl) d_Wr_init_12,
  r_aload_n d_Wr_init_15 rfl,
  r_bipush d_Wr_init_16 (by decide),
  r_newarray rfl rfl k_73 (by decide) (fun _ => rfl) (fun U cA h1 h2 => Option.some.inj (h2.symm.trans h1)) d_Wr_init_18,
  r_putfield (fin := true) (j_all_mem ⟨⟨_, _, _, t_Wr, _, rfl, w_Wr, t_Wr_ok, n_Wr, by decide, rfl, t_Wr_ok 4 (by decide), Or.inr (Or.inr (Or.inl ⟨rfl, by first | exact Or.inl ⟨_, rfl⟩ | exact Or.inr ⟨_, rfl⟩⟩)), ⟨_, k_220, Or.inl rfl⟩, (fun _ => rfl)⟩, trivial⟩) (fun _ => rfl) d_Wr_init_20,
  r_aload_n d_Wr_init_23 rfl,
  r_aload_n d_Wr_init_24 rfl,
  r_putfield (fin := true) (j_all_mem ⟨⟨_, _, _, t_Wr, _, rfl, w_Wr, t_Wr_ok, n_Wr, by decide, rfl, t_Wr_ok 2 (by decide), Or.inr (Or.inr (Or.inl ⟨rfl, by first | exact Or.inl ⟨_, rfl⟩ | exact Or.inr ⟨_, rfl⟩⟩)), ⟨_, k_218, Or.inl rfl⟩, (fun _ => rfl)⟩, trivial⟩) (fun _ => rfl) d_Wr_init_25,
  r_return d_Wr_init_28 rfl, trivial⟩), (fun q h => by cases h), (fun _ => rfl)⟩
theorem d_Wr_seal_0 : decode b_Wr_seal 0 = .ok (.aload_n 0, 1) := by decide +kernel
theorem d_Wr_seal_1 : decode b_Wr_seal 1 = .ok (.getfield 29, 3) := by decide +kernel
theorem d_Wr_seal_4 : decode b_Wr_seal 4 = .ok (.ifCond .le 47, 3) := by decide +kernel
theorem d_Wr_seal_7 : decode b_Wr_seal 7 = .ok (.aload_n 0, 1) := by decide +kernel
theorem d_Wr_seal_8 : decode b_Wr_seal 8 = .ok (.getfield 29, 3) := by decide +kernel
theorem d_Wr_seal_11 : decode b_Wr_seal 11 = .ok (.bipush 8, 2) := by decide +kernel
theorem d_Wr_seal_13 : decode b_Wr_seal 13 = .ok (.iadd, 1) := by decide +kernel
theorem d_Wr_seal_14 : decode b_Wr_seal 14 = .ok (.iconst 1, 1) := by decide +kernel
theorem d_Wr_seal_15 : decode b_Wr_seal 15 = .ok (.isub, 1) := by decide +kernel
theorem d_Wr_seal_16 : decode b_Wr_seal 16 = .ok (.bipush 8, 2) := by decide +kernel
theorem d_Wr_seal_18 : decode b_Wr_seal 18 = .ok (.idiv, 1) := by decide +kernel
theorem d_Wr_seal_19 : decode b_Wr_seal 19 = .ok (.istore_n 1, 1) := by decide +kernel
theorem d_Wr_seal_20 : decode b_Wr_seal 20 = .ok (.aload_n 0, 1) := by decide +kernel
theorem d_Wr_seal_21 : decode b_Wr_seal 21 = .ok (.getfield 12, 3) := by decide +kernel
theorem d_Wr_seal_24 : decode b_Wr_seal 24 = .ok (.new 56, 3) := by decide +kernel
theorem d_Wr_seal_27 : decode b_Wr_seal 27 = .ok (.dup, 1) := by decide +kernel
theorem d_Wr_seal_28 : decode b_Wr_seal 28 = .ok (.aload_n 0, 1) := by decide +kernel
theorem d_Wr_seal_29 : decode b_Wr_seal 29 = .ok (.getfield 18, 3) := by decide +kernel
theorem d_Wr_seal_32 : decode b_Wr_seal 32 = .ok (.iload_n 1, 1) := by decide +kernel
theorem d_Wr_seal_33 : decode b_Wr_seal 33 = .ok (.invokestatic 58, 3) := by decide +kernel
theorem d_Wr_seal_36 : decode b_Wr_seal 36 = .ok (.aload_n 0, 1) := by decide +kernel
theorem d_Wr_seal_37 : decode b_Wr_seal 37 = .ok (.getfield 29, 3) := by decide +kernel
theorem d_Wr_seal_40 : decode b_Wr_seal 40 = .ok (.aload_n 0, 1) := by decide +kernel
theorem d_Wr_seal_41 : decode b_Wr_seal 41 = .ok (.getfield 46, 3) := by decide +kernel
theorem d_Wr_seal_44 : decode b_Wr_seal 44 = .ok (.invokespecial 64, 3) := by decide +kernel
theorem d_Wr_seal_47 : decode b_Wr_seal 47 = .ok (.invokevirtual 67, 3) := by decide +kernel
theorem d_Wr_seal_50 : decode b_Wr_seal 50 = .ok (.pop, 1) := by decide +kernel
theorem d_Wr_seal_51 : decode b_Wr_seal 51 = .ok (.aload_n 0, 1) := by decide +kernel
theorem d_Wr_seal_52 : decode b_Wr_seal 52 = .ok (.iconst 0, 1) := by decide +kernel
theorem d_Wr_seal_53 : decode b_Wr_seal 53 = .ok (.putfield 29, 3) := by decide +kernel
theorem d_Wr_seal_56 : decode b_Wr_seal 56 = .ok (.aload_n 0, 1) := by decide +kernel
theorem d_Wr_seal_57 : decode b_Wr_seal 57 = .ok (.lconst 0, 1) := by decide +kernel
theorem d_Wr_seal_58 : decode b_Wr_seal 58 = .ok (.putfield 46, 3) := by decide +kernel
theorem d_Wr_seal_61 : decode b_Wr_seal 61 = .ok (.return_, 1) := by decide +kernel
def q_Wr_seal : List (Nat × j_S) := [(0, j_ld 2 0 1),
  (1, j_gf [7] 0 4),
  (4, j_br (f_if (fun x => decide (x ≤ 0))) 51 7),
  (7, j_ld 2 0 8),
  (8, j_gf [7] 0 11),
  (11, j_st (f_psh (.int 8)) 13),
  (13, j_st (f_ii (fun a b => a + b)) 14),
  (14, j_st (f_psh (.int 1)) 15),
  (15, j_st (f_ii (fun a b => a - b)) 16),
  (16, j_st (f_psh (.int 8)) 18),
  (18, j_st (f_iin (fun a b => a / b)) 19),
  (19, j_so 0 1 20),
  (20, j_ld 2 0 21),
  (21, j_gf [7] 3 24),
  (24, j_nw 9 4 [.int 0, .null, .int 0, .long 0] 27),
  (27, j_st (f_dup) 28),
  (28, j_ld 2 0 29),
  (29, j_gf [7] 4 32),
  (32, j_ld 0 1 33),
  (33, j_cs 16 2),
  (36, j_ld 2 0 37),
  (37, j_gf [7] 0 40),
  (40, j_ld 2 0 41),
  (41, j_gf [7] 1 44),
  (44, j_ci 115 3),
  (47, j_cv [(10, 0)] 1),
  (50, j_st (f_pop) 51),
  (51, j_ld 2 0 52),
  (52, j_st (f_psh (.int 0)) 53),
  (53, j_pf [7] 0 0 56),
  (56, j_ld 2 0 57),
  (57, j_st (f_psh (.long 0)) 58),
  (58, j_pf [7] 1 1 61),
  (61, j_rv)]
def i_Wr_seal : j_I := (R_Wr, b_Wr_seal, 2, false, none, [])
def e_Wr_seal : j_E := ((y_Wr_seal, c_Wr_seal), i_Wr_seal, j_tab q_Wr_seal, [])
theorem o_Wr_seal (G : j_G) : j_mok G tm e_Wr_seal := ⟨by decide +kernel, Or.inl ⟨rfl, rfl⟩, rfl, (fun h => by cases h), j_tab_ok (i := i_Wr_seal) (l := q_Wr_seal) (j_all_mem ⟨r_aload_n d_Wr_seal_0 rfl,
  r_getfield (j_all_mem ⟨⟨_, _, _, rfl, w_Wr, by decide, ⟨_, k_221, Or.inl rfl⟩⟩, trivial⟩) d_Wr_seal_1,
  r_if_le d_Wr_seal_4 (by decide),
  r_aload_n d_Wr_seal_7 rfl,
  r_getfield (j_all_mem ⟨⟨_, _, _, rfl, w_Wr, by decide, ⟨_, k_221, Or.inl rfl⟩⟩, trivial⟩) d_Wr_seal_8,
  r_bipush d_Wr_seal_11 (by decide),
  r_iadd d_Wr_seal_13,
  r_iconst d_Wr_seal_14 (by decide),
  r_isub d_Wr_seal_15,
  r_bipush d_Wr_seal_16 (by decide),
  r_idiv d_Wr_seal_18,
  r_istore_n d_Wr_seal_19 rfl (by decide),
  r_aload_n d_Wr_seal_20 rfl,
  r_getfield (j_all_mem ⟨⟨_, _, _, rfl, w_Wr, by decide, ⟨_, k_219, Or.inl rfl⟩⟩, trivial⟩) d_Wr_seal_21,
  r_new (ty := t_Tb) rfl w_Tb t_Tb_ok k_485 k_486 k_26 (fun j hj => by revert j; decide) (by intro v hv a; revert v; simp) d_Wr_seal_24,
  r_dup d_Wr_seal_27,
  r_aload_n d_Wr_seal_28 rfl,
  r_getfield (j_all_mem ⟨⟨_, _, _, rfl, w_Wr, by decide, ⟨_, k_220, Or.inl rfl⟩⟩, trivial⟩) d_Wr_seal_29,
  r_iload_n d_Wr_seal_32 rfl,
  r_invS k_487 k_488 cw_Ar_copyOf_2aI (by decide) (by decide +kernel) d_Wr_seal_33,
  r_aload_n d_Wr_seal_36 rfl,
  r_getfield (j_all_mem ⟨⟨_, _, _, rfl, w_Wr, by decide, ⟨_, k_221, Or.inl rfl⟩⟩, trivial⟩) d_Wr_seal_37,
  r_aload_n d_Wr_seal_40 rfl,
  r_getfield (j_all_mem ⟨⟨_, _, _, rfl, w_Wr, by decide, ⟨_, k_222, Or.inl rfl⟩⟩, trivial⟩) d_Wr_seal_41,
  r_invI k_501 k_502 rfl rfl cw_Tb_init (by decide) (by decide +kernel) d_Wr_seal_44,
  r_invV (j_all_mem ⟨⟨⟨_, _, _, rfl, k_518, k_519, k_520⟩, cw_AL_add_1, by decide, by decide +kernel⟩, trivial⟩) d_Wr_seal_47,
  r_pop d_Wr_seal_50,
  r_aload_n d_Wr_seal_51 rfl,
  r_iconst d_Wr_seal_52 (by decide),
  r_putfield (fin := false) (j_all_mem ⟨⟨_, _, _, t_Wr, _, rfl, w_Wr, t_Wr_ok, n_Wr, by decide, rfl, t_Wr_ok 0 (by decide), Or.inl ⟨rfl, rfl⟩, ⟨_, k_221, Or.inl rfl⟩, (fun h => by cases h)⟩, trivial⟩) (fun h => by cases h) d_Wr_seal_53,
  r_aload_n d_Wr_seal_56 rfl,
  r_lconst d_Wr_seal_57 (by decide),
  r_putfield (fin := false) (j_all_mem ⟨⟨_, _, _, t_Wr, _, rfl, w_Wr, t_Wr_ok, n_Wr, by decide, rfl, t_Wr_ok 1 (by decide), Or.inr (Or.inl ⟨rfl, rfl⟩), ⟨_, k_222, Or.inl rfl⟩, (fun h => by cases h)⟩, trivial⟩) (fun h => by cases h) d_Wr_seal_58,
  r_return d_Wr_seal_61 rfl, trivial⟩), (fun q h => by cases h), (fun _ => rfl)⟩
theorem d_Wr_tables_0 : decode b_Wr_tables 0 = .ok (.aload_n 0, 1) := by decide +kernel
theorem d_Wr_tables_1 : decode b_Wr_tables 1 = .ok (.getfield 12, 3) := by decide +kernel
theorem d_Wr_tables_4 : decode b_Wr_tables 4 = .ok (.areturn, 1) := by decide +kernel
def q_Wr_tables : List (Nat × j_S) := [(0, j_ld 2 0 1),
  (1, j_gf [7] 3 4),
  (4, j_rt 2)]
def i_Wr_tables : j_I := (R_Wr, b_Wr_tables, 1, false, (some (.object "java/util/ArrayList")), [])
def e_Wr_tables : j_E := ((y_Wr_tables, c_Wr_tables), i_Wr_tables, j_tab q_Wr_tables, [])
theorem o_Wr_tables (G : j_G) : j_mok G tm e_Wr_tables := ⟨by decide +kernel, Or.inl ⟨rfl, rfl⟩, rfl, (fun h => by cases h), j_tab_ok (i := i_Wr_tables) (l := q_Wr_tables) (j_all_mem ⟨r_aload_n d_Wr_tables_0 rfl,
  r_getfield (j_all_mem ⟨⟨_, _, _, rfl, w_Wr, by decide, ⟨_, k_219, Or.inl rfl⟩⟩, trivial⟩) d_Wr_tables_1,
  r_areturn d_Wr_tables_4 rfl (by first | exact Or.inl ⟨_, rfl⟩ | exact Or.inr ⟨_, rfl⟩), trivial⟩), (fun q h => by cases h), (fun _ => rfl)⟩
