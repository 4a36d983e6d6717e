/-! the methods of AL, Al, Ac, Ar, Ma, Ob, Pr, As: their instructions, and that each is right (written by wip/whole/gen.py) -/
theorem d_AL_add_1_0 : decode b_AL_add_1 0 = .ok (.aload_n 0, 1) := by decide +kernel
theorem d_AL_add_1_1 : decode b_AL_add_1 1 = .ok (.dup, 1) := by decide +kernel
theorem d_AL_add_1_2 : decode b_AL_add_1 2 = .ok (.getfield 63, 3) := by decide +kernel
theorem d_AL_add_1_5 : decode b_AL_add_1 5 = .ok (.iconst 1, 1) := by decide +kernel
theorem d_AL_add_1_6 : decode b_AL_add_1 6 = .ok (.iadd, 1) := by decide +kernel
theorem d_AL_add_1_7 : decode b_AL_add_1 7 = .ok (.putfield 63, 3) := by decide +kernel
theorem d_AL_add_1_10 : decode b_AL_add_1 10 = .ok (.aload_n 0, 1) := by decide +kernel
theorem d_AL_add_1_11 : decode b_AL_add_1 11 = .ok (.aload_n 1, 1) := by decide +kernel
theorem d_AL_add_1_12 : decode b_AL_add_1 12 = .ok (.aload_n 0, 1) := by decide +kernel
theorem d_AL_add_1_13 : decode b_AL_add_1 13 = .ok (.getfield 9, 3) := by decide +kernel
theorem d_AL_add_1_16 : decode b_AL_add_1 16 = .ok (.aload_n 0, 1) := by decide +kernel
theorem d_AL_add_1_17 : decode b_AL_add_1 17 = .ok (.getfield 48, 3) := by decide +kernel
theorem d_AL_add_1_20 : decode b_AL_add_1 20 = .ok (.invokevirtual 131, 3) := by decide +kernel
theorem d_AL_add_1_23 : decode b_AL_add_1 23 = .ok (.iconst 1, 1) := by decide +kernel
theorem d_AL_add_1_24 : decode b_AL_add_1 24 = .ok (.ireturn, 1) := by decide +kernel
def q_AL_add_1 : List (Nat × j_S) := [(0, j_ld 2 0 1),
  (1, j_st (f_dup) 2),
  (2, j_gf [10] 0 5),
  (5, j_st (f_psh (.int 1)) 6),
  (6, j_st (f_ii (fun a b => a + b)) 7),
  (7, j_pf [10] 0 0 10),
  (10, j_ld 2 0 11),
  (11, j_ld 2 1 12),
  (12, j_ld 2 0 13),
  (13, j_gf [10] 1 16),
  (16, j_ld 2 0 17),
  (17, j_gf [10] 2 20),
  (20, j_cv [(10, 2)] 3),
  (23, j_st (f_psh (.int 1)) 24),
  (24, j_rt 3)]
def i_AL_add_1 : j_I := (R_AL, b_AL_add_1, 2, false, (some .boolean), [])
def e_AL_add_1 : j_E := ((y_AL_add_1, c_AL_add_1), i_AL_add_1, j_tab q_AL_add_1, [])
theorem o_AL_add_1 (G : j_G) : j_mok G tm e_AL_add_1 := ⟨by decide +kernel, Or.inl ⟨rfl, rfl⟩, rfl, (fun h => by cases h), j_tab_ok (i := i_AL_add_1) (l := q_AL_add_1) (j_all_mem ⟨r_aload_n d_AL_add_1_0 rfl,
  r_dup d_AL_add_1_1,
  r_getfield (j_all_mem ⟨⟨_, _, _, rfl, w_AL, by decide, ⟨_, k_156, Or.inr k_157⟩⟩, trivial⟩) d_AL_add_1_2,
  r_iconst d_AL_add_1_5 (by decide),
  r_iadd d_AL_add_1_6,
  r_putfield (fin := false) (j_all_mem ⟨⟨_, _, _, t_AL, _, rfl, w_AL, t_AL_ok, n_AL, by decide, rfl, t_AL_ok 0 (by decide), Or.inl ⟨rfl, rfl⟩, ⟨_, k_156, Or.inr k_157⟩, (fun h => by cases h)⟩, trivial⟩) (fun h => by cases h) d_AL_add_1_7,
  r_aload_n d_AL_add_1_10 rfl,
  r_aload_n d_AL_add_1_11 rfl,
  r_aload_n d_AL_add_1_12 rfl,
  r_getfield (j_all_mem ⟨⟨_, _, _, rfl, w_AL, by decide, ⟨_, k_153, Or.inl rfl⟩⟩, trivial⟩) d_AL_add_1_13,
  r_aload_n d_AL_add_1_16 rfl,
  r_getfield (j_all_mem ⟨⟨_, _, _, rfl, w_AL, by decide, ⟨_, k_154, Or.inl rfl⟩⟩, trivial⟩) d_AL_add_1_17,
  r_invV (j_all_mem ⟨⟨⟨_, _, _, rfl, k_522, k_524, kp_AL_add_3⟩, cw_AL_add_3, by decide, by decide +kernel⟩, trivial⟩) d_AL_add_1_20,
  r_iconst d_AL_add_1_23 (by decide),
  r_zreturn d_AL_add_1_24 rfl, trivial⟩), (fun q h => by cases h), (fun _ => rfl)⟩
theorem d_AL_add_2_0 : decode b_AL_add_2 0 = .ok (.aload_n 0, 1) := by decide +kernel
theorem d_AL_add_2_1 : decode b_AL_add_2 1 = .ok (.iload_n 1, 1) := by decide +kernel
theorem d_AL_add_2_2 : decode b_AL_add_2 2 = .ok (.invokevirtual 135, 3) := by decide +kernel
theorem d_AL_add_2_5 : decode b_AL_add_2 5 = .ok (.aload_n 0, 1) := by decide +kernel
theorem d_AL_add_2_6 : decode b_AL_add_2 6 = .ok (.dup, 1) := by decide +kernel
theorem d_AL_add_2_7 : decode b_AL_add_2 7 = .ok (.getfield 63, 3) := by decide +kernel
theorem d_AL_add_2_10 : decode b_AL_add_2 10 = .ok (.iconst 1, 1) := by decide +kernel
theorem d_AL_add_2_11 : decode b_AL_add_2 11 = .ok (.iadd, 1) := by decide +kernel
theorem d_AL_add_2_12 : decode b_AL_add_2 12 = .ok (.putfield 63, 3) := by decide +kernel
theorem d_AL_add_2_15 : decode b_AL_add_2 15 = .ok (.aload_n 0, 1) := by decide +kernel
theorem d_AL_add_2_16 : decode b_AL_add_2 16 = .ok (.getfield 48, 3) := by decide +kernel
theorem d_AL_add_2_19 : decode b_AL_add_2 19 = .ok (.dup, 1) := by decide +kernel
theorem d_AL_add_2_20 : decode b_AL_add_2 20 = .ok (.istore_n 3, 1) := by decide +kernel
theorem d_AL_add_2_21 : decode b_AL_add_2 21 = .ok (.aload_n 0, 1) := by decide +kernel
theorem d_AL_add_2_22 : decode b_AL_add_2 22 = .ok (.getfield 9, 3) := by decide +kernel
theorem d_AL_add_2_25 : decode b_AL_add_2 25 = .ok (.dup, 1) := by decide +kernel
theorem d_AL_add_2_26 : decode b_AL_add_2 26 = .ok (.astore 4, 2) := by decide +kernel
theorem d_AL_add_2_28 : decode b_AL_add_2 28 = .ok (.arraylength, 1) := by decide +kernel
theorem d_AL_add_2_29 : decode b_AL_add_2 29 = .ok (.if_icmp .ne 9, 3) := by decide +kernel
theorem d_AL_add_2_32 : decode b_AL_add_2 32 = .ok (.aload_n 0, 1) := by decide +kernel
theorem d_AL_add_2_33 : decode b_AL_add_2 33 = .ok (.invokevirtual 129, 3) := by decide +kernel
theorem d_AL_add_2_36 : decode b_AL_add_2 36 = .ok (.astore 4, 2) := by decide +kernel
theorem d_AL_add_2_38 : decode b_AL_add_2 38 = .ok (.aload 4, 2) := by decide +kernel
theorem d_AL_add_2_40 : decode b_AL_add_2 40 = .ok (.iload_n 1, 1) := by decide +kernel
theorem d_AL_add_2_41 : decode b_AL_add_2 41 = .ok (.aload 4, 2) := by decide +kernel
theorem d_AL_add_2_43 : decode b_AL_add_2 43 = .ok (.iload_n 1, 1) := by decide +kernel
theorem d_AL_add_2_44 : decode b_AL_add_2 44 = .ok (.iconst 1, 1) := by decide +kernel
theorem d_AL_add_2_45 : decode b_AL_add_2 45 = .ok (.iadd, 1) := by decide +kernel
theorem d_AL_add_2_46 : decode b_AL_add_2 46 = .ok (.iload_n 3, 1) := by decide +kernel
theorem d_AL_add_2_47 : decode b_AL_add_2 47 = .ok (.iload_n 1, 1) := by decide +kernel
theorem d_AL_add_2_48 : decode b_AL_add_2 48 = .ok (.isub, 1) := by decide +kernel
theorem d_AL_add_2_49 : decode b_AL_add_2 49 = .ok (.invokestatic 112, 3) := by decide +kernel
theorem d_AL_add_2_52 : decode b_AL_add_2 52 = .ok (.aload 4, 2) := by decide +kernel
theorem d_AL_add_2_54 : decode b_AL_add_2 54 = .ok (.iload_n 1, 1) := by decide +kernel
theorem d_AL_add_2_55 : decode b_AL_add_2 55 = .ok (.aload_n 2, 1) := by decide +kernel
theorem d_AL_add_2_56 : decode b_AL_add_2 56 = .ok (.aastore, 1) := by decide +kernel
theorem d_AL_add_2_57 : decode b_AL_add_2 57 = .ok (.aload_n 0, 1) := by decide +kernel
theorem d_AL_add_2_58 : decode b_AL_add_2 58 = .ok (.iload_n 3, 1) := by decide +kernel
theorem d_AL_add_2_59 : decode b_AL_add_2 59 = .ok (.iconst 1, 1) := by decide +kernel
theorem d_AL_add_2_60 : decode b_AL_add_2 60 = .ok (.iadd, 1) := by decide +kernel
theorem d_AL_add_2_61 : decode b_AL_add_2 61 = .ok (.putfield 48, 3) := by decide +kernel
theorem d_AL_add_2_64 : decode b_AL_add_2 64 = .ok (.return_, 1) := by decide +kernel
def q_AL_add_2 : List (Nat × j_S) := [(0, j_ld 2 0 1),
  (1, j_ld 0 1 2),
  (2, j_cv [(10, 10)] 1),
  (5, j_ld 2 0 6),
  (6, j_st (f_dup) 7),
  (7, j_gf [10] 0 10),
  (10, j_st (f_psh (.int 1)) 11),
  (11, j_st (f_ii (fun a b => a + b)) 12),
  (12, j_pf [10] 0 0 15),
  (15, j_ld 2 0 16),
  (16, j_gf [10] 2 19),
  (19, j_st (f_dup) 20),
  (20, j_so 0 3 21),
  (21, j_ld 2 0 22),
  (22, j_gf [10] 1 25),
  (25, j_st (f_dup) 26),
  (26, j_so 2 4 28),
  (28, j_an 29),
  (29, j_br (f_ic (fun x y => decide (¬ x = y))) 38 32),
  (32, j_ld 2 0 33),
  (33, j_cv [(10, 7)] 0),
  (36, j_so 2 4 38),
  (38, j_ld 2 4 40),
  (40, j_ld 0 1 41),
  (41, j_ld 2 4 43),
  (43, j_ld 0 1 44),
  (44, j_st (f_psh (.int 1)) 45),
  (45, j_st (f_ii (fun a b => a + b)) 46),
  (46, j_ld 0 3 47),
  (47, j_ld 0 1 48),
  (48, j_st (f_ii (fun a b => a - b)) 49),
  (49, j_cpq 52),
  (52, j_ld 2 4 54),
  (54, j_ld 0 1 55),
  (55, j_ld 2 2 56),
  (56, j_aq 57),
  (57, j_ld 2 0 58),
  (58, j_ld 0 3 59),
  (59, j_st (f_psh (.int 1)) 60),
  (60, j_st (f_ii (fun a b => a + b)) 61),
  (61, j_pf [10] 2 0 64),
  (64, j_rv)]
def i_AL_add_2 : j_I := (R_AL, b_AL_add_2, 5, false, none, [])
def e_AL_add_2 : j_E := ((y_AL_add_2, c_AL_add_2), i_AL_add_2, j_tab q_AL_add_2, [])
theorem o_AL_add_2 (G : j_G) : j_mok G tm e_AL_add_2 := ⟨by decide +kernel, Or.inl ⟨rfl, rfl⟩, rfl, (fun h => by cases h), j_tab_ok (i := i_AL_add_2) (l := q_AL_add_2) (j_all_mem ⟨r_aload_n d_AL_add_2_0 rfl,
  r_iload_n d_AL_add_2_1 rfl,
  r_invV (j_all_mem ⟨⟨⟨_, _, _, rfl, k_645, k_647, kp_AL_rangeCheckForAdd⟩, cw_AL_rangeCheckForAdd, by decide, by decide +kernel⟩, trivial⟩) d_AL_add_2_2,
  r_aload_n d_AL_add_2_5 rfl,
  r_dup d_AL_add_2_6,
  r_getfield (j_all_mem ⟨⟨_, _, _, rfl, w_AL, by decide, ⟨_, k_156, Or.inr k_157⟩⟩, trivial⟩) d_AL_add_2_7,
  r_iconst d_AL_add_2_10 (by decide),
  r_iadd d_AL_add_2_11,
  r_putfield (fin := false) (j_all_mem ⟨⟨_, _, _, t_AL, _, rfl, w_AL, t_AL_ok, n_AL, by decide, rfl, t_AL_ok 0 (by decide), Or.inl ⟨rfl, rfl⟩, ⟨_, k_156, Or.inr k_157⟩, (fun h => by cases h)⟩, trivial⟩) (fun h => by cases h) d_AL_add_2_12,
  r_aload_n d_AL_add_2_15 rfl,
  r_getfield (j_all_mem ⟨⟨_, _, _, rfl, w_AL, by decide, ⟨_, k_154, Or.inl rfl⟩⟩, trivial⟩) d_AL_add_2_16,
  r_dup d_AL_add_2_19,
  r_istore_n d_AL_add_2_20 rfl (by decide),
  r_aload_n d_AL_add_2_21 rfl,
  r_getfield (j_all_mem ⟨⟨_, _, _, rfl, w_AL, by decide, ⟨_, k_153, Or.inl rfl⟩⟩, trivial⟩) d_AL_add_2_22,
  r_dup d_AL_add_2_25,
  r_astore d_AL_add_2_26 (by decide),
  r_alen d_AL_add_2_28,
  r_ic_ne d_AL_add_2_29 (by decide),
  r_aload_n d_AL_add_2_32 rfl,
  r_invV (j_all_mem ⟨⟨⟨_, _, _, rfl, k_526, k_528, kp_AL_grow_0⟩, cw_AL_grow_0, by decide, by decide +kernel⟩, trivial⟩) d_AL_add_2_33,
  r_astore d_AL_add_2_36 (by decide),
  r_aload d_AL_add_2_38,
  r_iload_n d_AL_add_2_40 rfl,
  r_aload d_AL_add_2_41,
  r_iload_n d_AL_add_2_43 rfl,
  r_iconst d_AL_add_2_44 (by decide),
  r_iadd d_AL_add_2_45,
  r_iload_n d_AL_add_2_46 rfl,
  r_iload_n d_AL_add_2_47 rfl,
  r_isub d_AL_add_2_48,
  r_copyq ⟨k_620, k_305, k_304, k_22⟩ d_AL_add_2_49,
  r_aload d_AL_add_2_52,
  r_iload_n d_AL_add_2_54 rfl,
  r_aload_n d_AL_add_2_55 rfl,
  r_aastore2 d_AL_add_2_56,
  r_aload_n d_AL_add_2_57 rfl,
  r_iload_n d_AL_add_2_58 rfl,
  r_iconst d_AL_add_2_59 (by decide),
  r_iadd d_AL_add_2_60,
  r_putfield (fin := false) (j_all_mem ⟨⟨_, _, _, t_AL, _, rfl, w_AL, t_AL_ok, n_AL, by decide, rfl, t_AL_ok 2 (by decide), Or.inl ⟨rfl, rfl⟩, ⟨_, k_154, Or.inl rfl⟩, (fun h => by cases h)⟩, trivial⟩) (fun h => by cases h) d_AL_add_2_61,
  r_return d_AL_add_2_64 rfl, trivial⟩), (fun q h => by cases h), (fun _ => rfl)⟩
theorem d_AL_add_3_0 : decode b_AL_add_3 0 = .ok (.iload_n 3, 1) := by decide +kernel
theorem d_AL_add_3_1 : decode b_AL_add_3 1 = .ok (.aload_n 2, 1) := by decide +kernel
theorem d_AL_add_3_2 : decode b_AL_add_3 2 = .ok (.arraylength, 1) := by decide +kernel
theorem d_AL_add_3_3 : decode b_AL_add_3 3 = .ok (.if_icmp .ne 8, 3) := by decide +kernel
theorem d_AL_add_3_6 : decode b_AL_add_3 6 = .ok (.aload_n 0, 1) := by decide +kernel
theorem d_AL_add_3_7 : decode b_AL_add_3 7 = .ok (.invokevirtual 129, 3) := by decide +kernel
theorem d_AL_add_3_10 : decode b_AL_add_3 10 = .ok (.astore_n 2, 1) := by decide +kernel
theorem d_AL_add_3_11 : decode b_AL_add_3 11 = .ok (.aload_n 2, 1) := by decide +kernel
theorem d_AL_add_3_12 : decode b_AL_add_3 12 = .ok (.iload_n 3, 1) := by decide +kernel
theorem d_AL_add_3_13 : decode b_AL_add_3 13 = .ok (.aload_n 1, 1) := by decide +kernel
theorem d_AL_add_3_14 : decode b_AL_add_3 14 = .ok (.aastore, 1) := by decide +kernel
theorem d_AL_add_3_15 : decode b_AL_add_3 15 = .ok (.aload_n 0, 1) := by decide +kernel
theorem d_AL_add_3_16 : decode b_AL_add_3 16 = .ok (.iload_n 3, 1) := by decide +kernel
theorem d_AL_add_3_17 : decode b_AL_add_3 17 = .ok (.iconst 1, 1) := by decide +kernel
theorem d_AL_add_3_18 : decode b_AL_add_3 18 = .ok (.iadd, 1) := by decide +kernel
theorem d_AL_add_3_19 : decode b_AL_add_3 19 = .ok (.putfield 48, 3) := by decide +kernel
theorem d_AL_add_3_22 : decode b_AL_add_3 22 = .ok (.return_, 1) := by decide +kernel
def q_AL_add_3 : List (Nat × j_S) := [(0, j_ld 0 3 1),
  (1, j_ld 2 2 2),
  (2, j_an 3),
  (3, j_br (f_ic (fun x y => decide (¬ x = y))) 11 6),
  (6, j_ld 2 0 7),
  (7, j_cv [(10, 7)] 0),
  (10, j_so 2 2 11),
  (11, j_ld 2 2 12),
  (12, j_ld 0 3 13),
  (13, j_ld 2 1 14),
  (14, j_aq 15),
  (15, j_ld 2 0 16),
  (16, j_ld 0 3 17),
  (17, j_st (f_psh (.int 1)) 18),
  (18, j_st (f_ii (fun a b => a + b)) 19),
  (19, j_pf [10] 2 0 22),
  (22, j_rv)]
def i_AL_add_3 : j_I := (R_AL, b_AL_add_3, 4, false, none, [])
def e_AL_add_3 : j_E := ((y_AL_add_3, c_AL_add_3), i_AL_add_3, j_tab q_AL_add_3, [])
theorem o_AL_add_3 (G : j_G) : j_mok G tm e_AL_add_3 := ⟨by decide +kernel, Or.inl ⟨rfl, rfl⟩, rfl, (fun h => by cases h), j_tab_ok (i := i_AL_add_3) (l := q_AL_add_3) (j_all_mem ⟨r_iload_n d_AL_add_3_0 rfl,
  r_aload_n d_AL_add_3_1 rfl,
  r_alen d_AL_add_3_2,
  r_ic_ne d_AL_add_3_3 (by decide),
  r_aload_n d_AL_add_3_6 rfl,
  r_invV (j_all_mem ⟨⟨⟨_, _, _, rfl, k_526, k_528, kp_AL_grow_0⟩, cw_AL_grow_0, by decide, by decide +kernel⟩, trivial⟩) d_AL_add_3_7,
  r_astore_n d_AL_add_3_10 rfl (by decide),
  r_aload_n d_AL_add_3_11 rfl,
  r_iload_n d_AL_add_3_12 rfl,
  r_aload_n d_AL_add_3_13 rfl,
  r_aastore2 d_AL_add_3_14,
  r_aload_n d_AL_add_3_15 rfl,
  r_iload_n d_AL_add_3_16 rfl,
  r_iconst d_AL_add_3_17 (by decide),
  r_iadd d_AL_add_3_18,
  r_putfield (fin := false) (j_all_mem ⟨⟨_, _, _, t_AL, _, rfl, w_AL, t_AL_ok, n_AL, by decide, rfl, t_AL_ok 2 (by decide), Or.inl ⟨rfl, rfl⟩, ⟨_, k_154, Or.inl rfl⟩, (fun h => by cases h)⟩, trivial⟩) (fun h => by cases h) d_AL_add_3_19,
  r_return d_AL_add_3_22 rfl, trivial⟩), (fun q h => by cases h), (fun _ => rfl)⟩
theorem d_AL_clear_0 : decode b_AL_clear 0 = .ok (.aload_n 0, 1) := by decide +kernel
theorem d_AL_clear_1 : decode b_AL_clear 1 = .ok (.dup, 1) := by decide +kernel
theorem d_AL_clear_2 : decode b_AL_clear 2 = .ok (.getfield 63, 3) := by decide +kernel
theorem d_AL_clear_5 : decode b_AL_clear 5 = .ok (.iconst 1, 1) := by decide +kernel
theorem d_AL_clear_6 : decode b_AL_clear 6 = .ok (.iadd, 1) := by decide +kernel
theorem d_AL_clear_7 : decode b_AL_clear 7 = .ok (.putfield 63, 3) := by decide +kernel
theorem d_AL_clear_10 : decode b_AL_clear 10 = .ok (.aload_n 0, 1) := by decide +kernel
theorem d_AL_clear_11 : decode b_AL_clear 11 = .ok (.getfield 9, 3) := by decide +kernel
theorem d_AL_clear_14 : decode b_AL_clear 14 = .ok (.astore_n 1, 1) := by decide +kernel
theorem d_AL_clear_15 : decode b_AL_clear 15 = .ok (.aload_n 0, 1) := by decide +kernel
theorem d_AL_clear_16 : decode b_AL_clear 16 = .ok (.getfield 48, 3) := by decide +kernel
theorem d_AL_clear_19 : decode b_AL_clear 19 = .ok (.istore_n 2, 1) := by decide +kernel
theorem d_AL_clear_20 : decode b_AL_clear 20 = .ok (.aload_n 0, 1) := by decide +kernel
theorem d_AL_clear_21 : decode b_AL_clear 21 = .ok (.iconst 0, 1) := by decide +kernel
theorem d_AL_clear_22 : decode b_AL_clear 22 = .ok (.dup_x1, 1) := by decide +kernel
theorem d_AL_clear_23 : decode b_AL_clear 23 = .ok (.putfield 48, 3) := by decide +kernel
theorem d_AL_clear_26 : decode b_AL_clear 26 = .ok (.istore_n 3, 1) := by decide +kernel
theorem d_AL_clear_27 : decode b_AL_clear 27 = .ok (.iload_n 3, 1) := by decide +kernel
theorem d_AL_clear_28 : decode b_AL_clear 28 = .ok (.iload_n 2, 1) := by decide +kernel
theorem d_AL_clear_29 : decode b_AL_clear 29 = .ok (.if_icmp .ge 13, 3) := by decide +kernel
theorem d_AL_clear_32 : decode b_AL_clear 32 = .ok (.aload_n 1, 1) := by decide +kernel
theorem d_AL_clear_33 : decode b_AL_clear 33 = .ok (.iload_n 3, 1) := by decide +kernel
theorem d_AL_clear_34 : decode b_AL_clear 34 = .ok (.aconst_null, 1) := by decide +kernel
theorem d_AL_clear_35 : decode b_AL_clear 35 = .ok (.aastore, 1) := by decide +kernel
theorem d_AL_clear_36 : decode b_AL_clear 36 = .ok (.iinc 3 1, 3) := by decide +kernel
theorem d_AL_clear_39 : decode b_AL_clear 39 = .ok (.goto (-12), 3) := by decide +kernel
theorem d_AL_clear_42 : decode b_AL_clear 42 = .ok (.return_, 1) := by decide +kernel
def q_AL_clear : List (Nat × j_S) := [(0, j_ld 2 0 1),
  (1, j_st (f_dup) 2),
  (2, j_gf [10] 0 5),
  (5, j_st (f_psh (.int 1)) 6),
  (6, j_st (f_ii (fun a b => a + b)) 7),
  (7, j_pf [10] 0 0 10),
  (10, j_ld 2 0 11),
  (11, j_gf [10] 1 14),
  (14, j_so 2 1 15),
  (15, j_ld 2 0 16),
  (16, j_gf [10] 2 19),
  (19, j_so 0 2 20),
  (20, j_ld 2 0 21),
  (21, j_st (f_psh (.int 0)) 22),
  (22, j_st (f_dupx1) 23),
  (23, j_pf [10] 2 0 26),
  (26, j_so 0 3 27),
  (27, j_ld 0 3 28),
  (28, j_ld 0 2 29),
  (29, j_br (f_ic (fun x y => decide (y ≤ x))) 42 32),
  (32, j_ld 2 1 33),
  (33, j_ld 0 3 34),
  (34, j_st (f_psh .null) 35),
  (35, j_aq 36),
  (36, j_ic 3 1 39),
  (39, j_st f_id 27),
  (42, j_rv)]
def i_AL_clear : j_I := (R_AL, b_AL_clear, 4, false, none, [])
def e_AL_clear : j_E := ((y_AL_clear, c_AL_clear), i_AL_clear, j_tab q_AL_clear, [])
theorem o_AL_clear (G : j_G) : j_mok G tm e_AL_clear := ⟨by decide +kernel, Or.inl ⟨rfl, rfl⟩, rfl, (fun h => by cases h), j_tab_ok (i := i_AL_clear) (l := q_AL_clear) (j_all_mem ⟨r_aload_n d_AL_clear_0 rfl,
  r_dup d_AL_clear_1,
  r_getfield (j_all_mem ⟨⟨_, _, _, rfl, w_AL, by decide, ⟨_, k_156, Or.inr k_157⟩⟩, trivial⟩) d_AL_clear_2,
  r_iconst d_AL_clear_5 (by decide),
  r_iadd d_AL_clear_6,
  r_putfield (fin := false) (j_all_mem ⟨⟨_, _, _, t_AL, _, rfl, w_AL, t_AL_ok, n_AL, by decide, rfl, t_AL_ok 0 (by decide), Or.inl ⟨rfl, rfl⟩, ⟨_, k_156, Or.inr k_157⟩, (fun h => by cases h)⟩, trivial⟩) (fun h => by cases h) d_AL_clear_7,
  r_aload_n d_AL_clear_10 rfl,
  r_getfield (j_all_mem ⟨⟨_, _, _, rfl, w_AL, by decide, ⟨_, k_153, Or.inl rfl⟩⟩, trivial⟩) d_AL_clear_11,
  r_astore_n d_AL_clear_14 rfl (by decide),
  r_aload_n d_AL_clear_15 rfl,
  r_getfield (j_all_mem ⟨⟨_, _, _, rfl, w_AL, by decide, ⟨_, k_154, Or.inl rfl⟩⟩, trivial⟩) d_AL_clear_16,
  r_istore_n d_AL_clear_19 rfl (by decide),
  r_aload_n d_AL_clear_20 rfl,
  r_iconst d_AL_clear_21 (by decide),
  r_dupx1 d_AL_clear_22,
  r_putfield (fin := false) (j_all_mem ⟨⟨_, _, _, t_AL, _, rfl, w_AL, t_AL_ok, n_AL, by decide, rfl, t_AL_ok 2 (by decide), Or.inl ⟨rfl, rfl⟩, ⟨_, k_154, Or.inl rfl⟩, (fun h => by cases h)⟩, trivial⟩) (fun h => by cases h) d_AL_clear_23,
  r_istore_n d_AL_clear_26 rfl (by decide),
  r_iload_n d_AL_clear_27 rfl,
  r_iload_n d_AL_clear_28 rfl,
  r_ic_ge d_AL_clear_29 (by decide),
  r_aload_n d_AL_clear_32 rfl,
  r_iload_n d_AL_clear_33 rfl,
  r_null d_AL_clear_34,
  r_aastore2 d_AL_clear_35,
  j_ok_ic d_AL_clear_36 rfl (by decide) (by decide),
  r_goto d_AL_clear_39 (by decide),
  r_return d_AL_clear_42 rfl, trivial⟩), (fun q h => by cases h), (fun _ => rfl)⟩
theorem d_AL_elementData_0 : decode b_AL_elementData 0 = .ok (.aload_n 0, 1) := by decide +kernel
theorem d_AL_elementData_1 : decode b_AL_elementData 1 = .ok (.getfield 9, 3) := by decide +kernel
theorem d_AL_elementData_4 : decode b_AL_elementData 4 = .ok (.iload_n 1, 1) := by decide +kernel
theorem d_AL_elementData_5 : decode b_AL_elementData 5 = .ok (.aaload, 1) := by decide +kernel
theorem d_AL_elementData_6 : decode b_AL_elementData 6 = .ok (.areturn, 1) := by decide +kernel
def q_AL_elementData : List (Nat × j_S) := [(0, j_ld 2 0 1),
  (1, j_gf [10] 1 4),
  (4, j_ld 0 1 5),
  (5, j_alq 6),
  (6, j_rt 2)]
def i_AL_elementData : j_I := (R_AL, b_AL_elementData, 2, false, (some (.object "java/lang/Object")), [])
def e_AL_elementData : j_E := ((y_AL_elementData, c_AL_elementData), i_AL_elementData, j_tab q_AL_elementData, [])
theorem o_AL_elementData (G : j_G) : j_mok G tm e_AL_elementData := ⟨by decide +kernel, Or.inl ⟨rfl, rfl⟩, rfl, (fun h => by cases h), j_tab_ok (i := i_AL_elementData) (l := q_AL_elementData) (j_all_mem ⟨r_aload_n d_AL_elementData_0 rfl,
  r_getfield (j_all_mem ⟨⟨_, _, _, rfl, w_AL, by decide, ⟨_, k_153, Or.inl rfl⟩⟩, trivial⟩) d_AL_elementData_1,
  r_iload_n d_AL_elementData_4 rfl,
  r_aaload2 d_AL_elementData_5,
  r_areturn d_AL_elementData_6 rfl (by first | exact Or.inl ⟨_, rfl⟩ | exact Or.inr ⟨_, rfl⟩), trivial⟩), (fun q h => by cases h), (fun _ => rfl)⟩
theorem d_AL_fastRemove_0 : decode b_AL_fastRemove 0 = .ok (.aload_n 0, 1) := by decide +kernel
theorem d_AL_fastRemove_1 : decode b_AL_fastRemove 1 = .ok (.dup, 1) := by decide +kernel
theorem d_AL_fastRemove_2 : decode b_AL_fastRemove 2 = .ok (.getfield 63, 3) := by decide +kernel
theorem d_AL_fastRemove_5 : decode b_AL_fastRemove 5 = .ok (.iconst 1, 1) := by decide +kernel
theorem d_AL_fastRemove_6 : decode b_AL_fastRemove 6 = .ok (.iadd, 1) := by decide +kernel
theorem d_AL_fastRemove_7 : decode b_AL_fastRemove 7 = .ok (.putfield 63, 3) := by decide +kernel
theorem d_AL_fastRemove_10 : decode b_AL_fastRemove 10 = .ok (.aload_n 0, 1) := by decide +kernel
theorem d_AL_fastRemove_11 : decode b_AL_fastRemove 11 = .ok (.getfield 48, 3) := by decide +kernel
theorem d_AL_fastRemove_14 : decode b_AL_fastRemove 14 = .ok (.iconst 1, 1) := by decide +kernel
theorem d_AL_fastRemove_15 : decode b_AL_fastRemove 15 = .ok (.isub, 1) := by decide +kernel
theorem d_AL_fastRemove_16 : decode b_AL_fastRemove 16 = .ok (.dup, 1) := by decide +kernel
theorem d_AL_fastRemove_17 : decode b_AL_fastRemove 17 = .ok (.istore_n 3, 1) := by decide +kernel
theorem d_AL_fastRemove_18 : decode b_AL_fastRemove 18 = .ok (.iload_n 2, 1) := by decide +kernel
theorem d_AL_fastRemove_19 : decode b_AL_fastRemove 19 = .ok (.if_icmp .le 15, 3) := by decide +kernel
theorem d_AL_fastRemove_22 : decode b_AL_fastRemove 22 = .ok (.aload_n 1, 1) := by decide +kernel
theorem d_AL_fastRemove_23 : decode b_AL_fastRemove 23 = .ok (.iload_n 2, 1) := by decide +kernel
theorem d_AL_fastRemove_24 : decode b_AL_fastRemove 24 = .ok (.iconst 1, 1) := by decide +kernel
theorem d_AL_fastRemove_25 : decode b_AL_fastRemove 25 = .ok (.iadd, 1) := by decide +kernel
theorem d_AL_fastRemove_26 : decode b_AL_fastRemove 26 = .ok (.aload_n 1, 1) := by decide +kernel
theorem d_AL_fastRemove_27 : decode b_AL_fastRemove 27 = .ok (.iload_n 2, 1) := by decide +kernel
theorem d_AL_fastRemove_28 : decode b_AL_fastRemove 28 = .ok (.iload_n 3, 1) := by decide +kernel
theorem d_AL_fastRemove_29 : decode b_AL_fastRemove 29 = .ok (.iload_n 2, 1) := by decide +kernel
theorem d_AL_fastRemove_30 : decode b_AL_fastRemove 30 = .ok (.isub, 1) := by decide +kernel
theorem d_AL_fastRemove_31 : decode b_AL_fastRemove 31 = .ok (.invokestatic 112, 3) := by decide +kernel
theorem d_AL_fastRemove_34 : decode b_AL_fastRemove 34 = .ok (.aload_n 1, 1) := by decide +kernel
theorem d_AL_fastRemove_35 : decode b_AL_fastRemove 35 = .ok (.aload_n 0, 1) := by decide +kernel
theorem d_AL_fastRemove_36 : decode b_AL_fastRemove 36 = .ok (.iload_n 3, 1) := by decide +kernel
theorem d_AL_fastRemove_37 : decode b_AL_fastRemove 37 = .ok (.dup_x1, 1) := by decide +kernel
theorem d_AL_fastRemove_38 : decode b_AL_fastRemove 38 = .ok (.putfield 48, 3) := by decide +kernel
theorem d_AL_fastRemove_41 : decode b_AL_fastRemove 41 = .ok (.aconst_null, 1) := by decide +kernel
theorem d_AL_fastRemove_42 : decode b_AL_fastRemove 42 = .ok (.aastore, 1) := by decide +kernel
theorem d_AL_fastRemove_43 : decode b_AL_fastRemove 43 = .ok (.return_, 1) := by decide +kernel
def q_AL_fastRemove : List (Nat × j_S) := [(0, j_ld 2 0 1),
  (1, j_st (f_dup) 2),
  (2, j_gf [10] 0 5),
  (5, j_st (f_psh (.int 1)) 6),
  (6, j_st (f_ii (fun a b => a + b)) 7),
  (7, j_pf [10] 0 0 10),
  (10, j_ld 2 0 11),
  (11, j_gf [10] 2 14),
  (14, j_st (f_psh (.int 1)) 15),
  (15, j_st (f_ii (fun a b => a - b)) 16),
  (16, j_st (f_dup) 17),
  (17, j_so 0 3 18),
  (18, j_ld 0 2 19),
  (19, j_br (f_ic (fun x y => decide (x ≤ y))) 34 22),
  (22, j_ld 2 1 23),
  (23, j_ld 0 2 24),
  (24, j_st (f_psh (.int 1)) 25),
  (25, j_st (f_ii (fun a b => a + b)) 26),
  (26, j_ld 2 1 27),
  (27, j_ld 0 2 28),
  (28, j_ld 0 3 29),
  (29, j_ld 0 2 30),
  (30, j_st (f_ii (fun a b => a - b)) 31),
  (31, j_cpq 34),
  (34, j_ld 2 1 35),
  (35, j_ld 2 0 36),
  (36, j_ld 0 3 37),
  (37, j_st (f_dupx1) 38),
  (38, j_pf [10] 2 0 41),
  (41, j_st (f_psh .null) 42),
  (42, j_aq 43),
  (43, j_rv)]
def i_AL_fastRemove : j_I := (R_AL, b_AL_fastRemove, 4, false, none, [])
def e_AL_fastRemove : j_E := ((y_AL_fastRemove, c_AL_fastRemove), i_AL_fastRemove, j_tab q_AL_fastRemove, [])
theorem o_AL_fastRemove (G : j_G) : j_mok G tm e_AL_fastRemove := ⟨by decide +kernel, Or.inl ⟨rfl, rfl⟩, rfl, (fun h => by cases h), j_tab_ok (i := i_AL_fastRemove) (l := q_AL_fastRemove) (j_all_mem ⟨r_aload_n d_AL_fastRemove_0 rfl,
  r_dup d_AL_fastRemove_1,
  r_getfield (j_all_mem ⟨⟨_, _, _, rfl, w_AL, by decide, ⟨_, k_156, Or.inr k_157⟩⟩, trivial⟩) d_AL_fastRemove_2,
  r_iconst d_AL_fastRemove_5 (by decide),
  r_iadd d_AL_fastRemove_6,
  r_putfield (fin := false) (j_all_mem ⟨⟨_, _, _, t_AL, _, rfl, w_AL, t_AL_ok, n_AL, by decide, rfl, t_AL_ok 0 (by decide), Or.inl ⟨rfl, rfl⟩, ⟨_, k_156, Or.inr k_157⟩, (fun h => by cases h)⟩, trivial⟩) (fun h => by cases h) d_AL_fastRemove_7,
  r_aload_n d_AL_fastRemove_10 rfl,
  r_getfield (j_all_mem ⟨⟨_, _, _, rfl, w_AL, by decide, ⟨_, k_154, Or.inl rfl⟩⟩, trivial⟩) d_AL_fastRemove_11,
  r_iconst d_AL_fastRemove_14 (by decide),
  r_isub d_AL_fastRemove_15,
  r_dup d_AL_fastRemove_16,
  r_istore_n d_AL_fastRemove_17 rfl (by decide),
  r_iload_n d_AL_fastRemove_18 rfl,
  r_ic_le d_AL_fastRemove_19 (by decide),
  r_aload_n d_AL_fastRemove_22 rfl,
  r_iload_n d_AL_fastRemove_23 rfl,
  r_iconst d_AL_fastRemove_24 (by decide),
  r_iadd d_AL_fastRemove_25,
  r_aload_n d_AL_fastRemove_26 rfl,
  r_iload_n d_AL_fastRemove_27 rfl,
  r_iload_n d_AL_fastRemove_28 rfl,
  r_iload_n d_AL_fastRemove_29 rfl,
  r_isub d_AL_fastRemove_30,
  r_copyq ⟨k_620, k_305, k_304, k_22⟩ d_AL_fastRemove_31,
  r_aload_n d_AL_fastRemove_34 rfl,
  r_aload_n d_AL_fastRemove_35 rfl,
  r_iload_n d_AL_fastRemove_36 rfl,
  r_dupx1 d_AL_fastRemove_37,
  r_putfield (fin := false) (j_all_mem ⟨⟨_, _, _, t_AL, _, rfl, w_AL, t_AL_ok, n_AL, by decide, rfl, t_AL_ok 2 (by decide), Or.inl ⟨rfl, rfl⟩, ⟨_, k_154, Or.inl rfl⟩, (fun h => by cases h)⟩, trivial⟩) (fun h => by cases h) d_AL_fastRemove_38,
  r_null d_AL_fastRemove_41,
  r_aastore2 d_AL_fastRemove_42,
  r_return d_AL_fastRemove_43 rfl, trivial⟩), (fun q h => by cases h), (fun _ => rfl)⟩
theorem d_AL_get_0 : decode b_AL_get 0 = .ok (.iload_n 1, 1) := by decide +kernel
theorem d_AL_get_1 : decode b_AL_get 1 = .ok (.aload_n 0, 1) := by decide +kernel
theorem d_AL_get_2 : decode b_AL_get 2 = .ok (.getfield 48, 3) := by decide +kernel
theorem d_AL_get_5 : decode b_AL_get 5 = .ok (.invokestatic 118, 3) := by decide +kernel
theorem d_AL_get_8 : decode b_AL_get 8 = .ok (.pop, 1) := by decide +kernel
theorem d_AL_get_9 : decode b_AL_get 9 = .ok (.aload_n 0, 1) := by decide +kernel
theorem d_AL_get_10 : decode b_AL_get 10 = .ok (.iload_n 1, 1) := by decide +kernel
theorem d_AL_get_11 : decode b_AL_get 11 = .ok (.invokevirtual 123, 3) := by decide +kernel
theorem d_AL_get_14 : decode b_AL_get 14 = .ok (.areturn, 1) := by decide +kernel
def q_AL_get : List (Nat × j_S) := [(0, j_ld 0 1 1),
  (1, j_ld 2 0 2),
  (2, j_gf [10] 2 5),
  (5, j_cs 109 2),
  (8, j_st (f_pop) 9),
  (9, j_ld 2 0 10),
  (10, j_ld 0 1 11),
  (11, j_cv [(10, 4)] 1),
  (14, j_rt 2)]
def i_AL_get : j_I := (R_AL, b_AL_get, 2, false, (some (.object "java/lang/Object")), [])
def e_AL_get : j_E := ((y_AL_get, c_AL_get), i_AL_get, j_tab q_AL_get, [])
theorem o_AL_get (G : j_G) : j_mok G tm e_AL_get := ⟨by decide +kernel, Or.inl ⟨rfl, rfl⟩, rfl, (fun h => by cases h), j_tab_ok (i := i_AL_get) (l := q_AL_get) (j_all_mem ⟨r_iload_n d_AL_get_0 rfl,
  r_aload_n d_AL_get_1 rfl,
  r_getfield (j_all_mem ⟨⟨_, _, _, rfl, w_AL, by decide, ⟨_, k_154, Or.inl rfl⟩⟩, trivial⟩) d_AL_get_2,
  r_invS k_353 k_354 cw_Ob_checkIndex (by decide) (by decide +kernel) d_AL_get_5,
  r_pop d_AL_get_8,
  r_aload_n d_AL_get_9 rfl,
  r_iload_n d_AL_get_10 rfl,
  r_invV (j_all_mem ⟨⟨⟨_, _, _, rfl, k_359, k_360, k_361⟩, cw_AL_elementData, by decide, by decide +kernel⟩, trivial⟩) d_AL_get_11,
  r_areturn d_AL_get_14 rfl (by first | exact Or.inl ⟨_, rfl⟩ | exact Or.inr ⟨_, rfl⟩), trivial⟩), (fun q h => by cases h), (fun _ => rfl)⟩
theorem d_AL_grow_0_0 : decode b_AL_grow_0 0 = .ok (.aload_n 0, 1) := by decide +kernel
theorem d_AL_grow_0_1 : decode b_AL_grow_0 1 = .ok (.aload_n 0, 1) := by decide +kernel
theorem d_AL_grow_0_2 : decode b_AL_grow_0 2 = .ok (.getfield 48, 3) := by decide +kernel
theorem d_AL_grow_0_5 : decode b_AL_grow_0 5 = .ok (.iconst 1, 1) := by decide +kernel
theorem d_AL_grow_0_6 : decode b_AL_grow_0 6 = .ok (.iadd, 1) := by decide +kernel
theorem d_AL_grow_0_7 : decode b_AL_grow_0 7 = .ok (.invokevirtual 69, 3) := by decide +kernel
theorem d_AL_grow_0_10 : decode b_AL_grow_0 10 = .ok (.areturn, 1) := by decide +kernel
def q_AL_grow_0 : List (Nat × j_S) := [(0, j_ld 2 0 1),
  (1, j_ld 2 0 2),
  (2, j_gf [10] 2 5),
  (5, j_st (f_psh (.int 1)) 6),
  (6, j_st (f_ii (fun a b => a + b)) 7),
  (7, j_cv [(10, 8)] 1),
  (10, j_rt 2)]
def i_AL_grow_0 : j_I := (R_AL, b_AL_grow_0, 1, false, (some (.array (.object "java/lang/Object"))), [])
def e_AL_grow_0 : j_E := ((y_AL_grow_0, c_AL_grow_0), i_AL_grow_0, j_tab q_AL_grow_0, [])
theorem o_AL_grow_0 (G : j_G) : j_mok G tm e_AL_grow_0 := ⟨by decide +kernel, Or.inl ⟨rfl, rfl⟩, rfl, (fun h => by cases h), j_tab_ok (i := i_AL_grow_0) (l := q_AL_grow_0) (j_all_mem ⟨r_aload_n d_AL_grow_0_0 rfl,
  r_aload_n d_AL_grow_0_1 rfl,
  r_getfield (j_all_mem ⟨⟨_, _, _, rfl, w_AL, by decide, ⟨_, k_154, Or.inl rfl⟩⟩, trivial⟩) d_AL_grow_0_2,
  r_iconst d_AL_grow_0_5 (by decide),
  r_iadd d_AL_grow_0_6,
  r_invV (j_all_mem ⟨⟨⟨_, _, _, rfl, k_530, k_532, kp_AL_grow_1⟩, cw_AL_grow_1, by decide, by decide +kernel⟩, trivial⟩) d_AL_grow_0_7,
  r_areturn d_AL_grow_0_10 rfl (by first | exact Or.inl ⟨_, rfl⟩ | exact Or.inr ⟨_, rfl⟩), trivial⟩), (fun q h => by cases h), (fun _ => rfl)⟩
theorem d_AL_grow_1_0 : decode b_AL_grow_1 0 = .ok (.aload_n 0, 1) := by decide +kernel
theorem d_AL_grow_1_1 : decode b_AL_grow_1 1 = .ok (.getfield 9, 3) := by decide +kernel
theorem d_AL_grow_1_4 : decode b_AL_grow_1 4 = .ok (.arraylength, 1) := by decide +kernel
theorem d_AL_grow_1_5 : decode b_AL_grow_1 5 = .ok (.istore_n 2, 1) := by decide +kernel
theorem d_AL_grow_1_6 : decode b_AL_grow_1 6 = .ok (.iload_n 2, 1) := by decide +kernel
theorem d_AL_grow_1_7 : decode b_AL_grow_1 7 = .ok (.ifCond .gt 13, 3) := by decide +kernel
theorem d_AL_grow_1_10 : decode b_AL_grow_1 10 = .ok (.aload_n 0, 1) := by decide +kernel
theorem d_AL_grow_1_11 : decode b_AL_grow_1 11 = .ok (.getfield 9, 3) := by decide +kernel
theorem d_AL_grow_1_14 : decode b_AL_grow_1 14 = .ok (.getstatic 39, 3) := by decide +kernel
theorem d_AL_grow_1_17 : decode b_AL_grow_1 17 = .ok (.if_acmp .eq 28, 3) := by decide +kernel
theorem d_AL_grow_1_20 : decode b_AL_grow_1 20 = .ok (.iload_n 2, 1) := by decide +kernel
theorem d_AL_grow_1_21 : decode b_AL_grow_1 21 = .ok (.iload_n 1, 1) := by decide +kernel
theorem d_AL_grow_1_22 : decode b_AL_grow_1 22 = .ok (.iload_n 2, 1) := by decide +kernel
theorem d_AL_grow_1_23 : decode b_AL_grow_1 23 = .ok (.isub, 1) := by decide +kernel
theorem d_AL_grow_1_24 : decode b_AL_grow_1 24 = .ok (.iload_n 2, 1) := by decide +kernel
theorem d_AL_grow_1_25 : decode b_AL_grow_1 25 = .ok (.iconst 1, 1) := by decide +kernel
theorem d_AL_grow_1_26 : decode b_AL_grow_1 26 = .ok (.ishr, 1) := by decide +kernel
theorem d_AL_grow_1_27 : decode b_AL_grow_1 27 = .ok (.invokestatic 73, 3) := by decide +kernel
theorem d_AL_grow_1_30 : decode b_AL_grow_1 30 = .ok (.istore_n 3, 1) := by decide +kernel
theorem d_AL_grow_1_31 : decode b_AL_grow_1 31 = .ok (.aload_n 0, 1) := by decide +kernel
theorem d_AL_grow_1_32 : decode b_AL_grow_1 32 = .ok (.aload_n 0, 1) := by decide +kernel
theorem d_AL_grow_1_33 : decode b_AL_grow_1 33 = .ok (.getfield 9, 3) := by decide +kernel
theorem d_AL_grow_1_36 : decode b_AL_grow_1 36 = .ok (.iload_n 3, 1) := by decide +kernel
theorem d_AL_grow_1_37 : decode b_AL_grow_1 37 = .ok (.invokestatic 66, 3) := by decide +kernel
theorem d_AL_grow_1_40 : decode b_AL_grow_1 40 = .ok (.dup_x1, 1) := by decide +kernel
theorem d_AL_grow_1_41 : decode b_AL_grow_1 41 = .ok (.putfield 9, 3) := by decide +kernel
theorem d_AL_grow_1_44 : decode b_AL_grow_1 44 = .ok (.areturn, 1) := by decide +kernel
theorem d_AL_grow_1_45 : decode b_AL_grow_1 45 = .ok (.aload_n 0, 1) := by decide +kernel
theorem d_AL_grow_1_46 : decode b_AL_grow_1 46 = .ok (.bipush 10, 2) := by decide +kernel
theorem d_AL_grow_1_48 : decode b_AL_grow_1 48 = .ok (.iload_n 1, 1) := by decide +kernel
theorem d_AL_grow_1_49 : decode b_AL_grow_1 49 = .ok (.invokestatic 79, 3) := by decide +kernel
theorem d_AL_grow_1_52 : decode b_AL_grow_1 52 = .ok (.anewarray 7, 3) := by decide +kernel
theorem d_AL_grow_1_55 : decode b_AL_grow_1 55 = .ok (.dup_x1, 1) := by decide +kernel
theorem d_AL_grow_1_56 : decode b_AL_grow_1 56 = .ok (.putfield 9, 3) := by decide +kernel
theorem d_AL_grow_1_59 : decode b_AL_grow_1 59 = .ok (.areturn, 1) := by decide +kernel
def q_AL_grow_1 : List (Nat × j_S) := [(0, j_ld 2 0 1),
  (1, j_gf [10] 1 4),
  (4, j_an 5),
  (5, j_so 0 2 6),
  (6, j_ld 0 2 7),
  (7, j_br (f_if (fun x => decide (0 < x))) 20 10),
  (10, j_ld 2 0 11),
  (11, j_gf [10] 1 14),
  (14, j_st (f_psh (.ref 2)) 17),
  (17, j_br (f_ac true) 45 20),
  (20, j_ld 0 2 21),
  (21, j_ld 0 1 22),
  (22, j_ld 0 2 23),
  (23, j_st (f_ii (fun a b => a - b)) 24),
  (24, j_ld 0 2 25),
  (25, j_st (f_psh (.int 1)) 26),
  (26, j_st (f_ii (fun a b => a >>> (b &&& 31))) 27),
  (27, j_cs 22 3),
  (30, j_so 0 3 31),
  (31, j_ld 2 0 32),
  (32, j_ld 2 0 33),
  (33, j_gf [10] 1 36),
  (36, j_ld 0 3 37),
  (37, j_cs 17 2),
  (40, j_st (f_dupx1) 41),
  (41, j_pf [10] 1 2 44),
  (44, j_rt 2),
  (45, j_ld 2 0 46),
  (46, j_st (f_psh (.int 10)) 48),
  (48, j_ld 0 1 49),
  (49, j_mx 52),
  (52, j_na 6 55),
  (55, j_st (f_dupx1) 56),
  (56, j_pf [10] 1 2 59),
  (59, j_rt 2)]
def i_AL_grow_1 : j_I := (R_AL, b_AL_grow_1, 4, false, (some (.array (.object "java/lang/Object"))), [])
def e_AL_grow_1 : j_E := ((y_AL_grow_1, c_AL_grow_1), i_AL_grow_1, j_tab q_AL_grow_1, [])
theorem o_AL_grow_1 (G : j_G) : j_mok G tm e_AL_grow_1 := ⟨by decide +kernel, Or.inl ⟨rfl, rfl⟩, rfl, (fun h => by cases h), j_tab_ok (i := i_AL_grow_1) (l := q_AL_grow_1) (j_all_mem ⟨r_aload_n d_AL_grow_1_0 rfl,
  r_getfield (j_all_mem ⟨⟨_, _, _, rfl, w_AL, by decide, ⟨_, k_153, Or.inl rfl⟩⟩, trivial⟩) d_AL_grow_1_1,
  r_alen d_AL_grow_1_4,
  r_istore_n d_AL_grow_1_5 rfl (by decide),
  r_iload_n d_AL_grow_1_6 rfl,
  r_if_gt d_AL_grow_1_7 (by decide),
  r_aload_n d_AL_grow_1_10 rfl,
  r_getfield (j_all_mem ⟨⟨_, _, _, rfl, w_AL, by decide, ⟨_, k_153, Or.inl rfl⟩⟩, trivial⟩) d_AL_grow_1_11,
  r_getstatic z_empty k_151 d_AL_grow_1_14,
  r_acmpeq d_AL_grow_1_17 (by decide),
  r_iload_n d_AL_grow_1_20 rfl,
  r_iload_n d_AL_grow_1_21 rfl,
  r_iload_n d_AL_grow_1_22 rfl,
  r_isub d_AL_grow_1_23,
  r_iload_n d_AL_grow_1_24 rfl,
  r_iconst d_AL_grow_1_25 (by decide),
  r_ishr d_AL_grow_1_26,
  r_invS k_534 k_535 cw_As_newLength (by decide) (by decide +kernel) d_AL_grow_1_27,
  r_istore_n d_AL_grow_1_30 rfl (by decide),
  r_aload_n d_AL_grow_1_31 rfl,
  r_aload_n d_AL_grow_1_32 rfl,
  r_getfield (j_all_mem ⟨⟨_, _, _, rfl, w_AL, by decide, ⟨_, k_153, Or.inl rfl⟩⟩, trivial⟩) d_AL_grow_1_33,
  r_iload_n d_AL_grow_1_36 rfl,
  r_invS k_544 k_545 cw_Ar_copyOf_2aLj (by decide) (by decide +kernel) d_AL_grow_1_37,
  r_dupx1 d_AL_grow_1_40,
  r_putfield (fin := false) (j_all_mem ⟨⟨_, _, _, t_AL, _, rfl, w_AL, t_AL_ok, n_AL, by decide, rfl, t_AL_ok 1 (by decide), Or.inr (Or.inr (Or.inl ⟨rfl, by first | exact Or.inl ⟨_, rfl⟩ | exact Or.inr ⟨_, rfl⟩⟩)), ⟨_, k_153, Or.inl rfl⟩, (fun h => by cases h)⟩, trivial⟩) (fun h => by cases h) d_AL_grow_1_41,
  r_areturn d_AL_grow_1_44 rfl (by first | exact Or.inl ⟨_, rfl⟩ | exact Or.inr ⟨_, rfl⟩),
  r_aload_n d_AL_grow_1_45 rfl,
  r_bipush d_AL_grow_1_46 (by decide),
  r_iload_n d_AL_grow_1_48 rfl,
  r_mmax k_575 k_538 k_27 k_539 d_AL_grow_1_49,
  r_anewarray rfl rfl k_576 k_573 d_AL_grow_1_52,
  r_dupx1 d_AL_grow_1_55,
  r_putfield (fin := false) (j_all_mem ⟨⟨_, _, _, t_AL, _, rfl, w_AL, t_AL_ok, n_AL, by decide, rfl, t_AL_ok 1 (by decide), Or.inr (Or.inr (Or.inl ⟨rfl, by first | exact Or.inl ⟨_, rfl⟩ | exact Or.inr ⟨_, rfl⟩⟩)), ⟨_, k_153, Or.inl rfl⟩, (fun h => by cases h)⟩, trivial⟩) (fun h => by cases h) d_AL_grow_1_56,
  r_areturn d_AL_grow_1_59 rfl (by first | exact Or.inl ⟨_, rfl⟩ | exact Or.inr ⟨_, rfl⟩), trivial⟩), (fun q h => by cases h), (fun _ => rfl)⟩
theorem d_AL_init_0 : decode b_AL_init 0 = .ok (.aload_n 0, 1) := by decide +kernel
theorem d_AL_init_1 : decode b_AL_init 1 = .ok (.invokespecial 1, 3) := by decide +kernel
theorem d_AL_init_4 : decode b_AL_init 4 = .ok (.aload_n 0, 1) := by decide +kernel
theorem d_AL_init_5 : decode b_AL_init 5 = .ok (.getstatic 39, 3) := by decide +kernel
theorem d_AL_init_8 : decode b_AL_init 8 = .ok (.putfield 9, 3) := by decide +kernel
theorem d_AL_init_11 : decode b_AL_init 11 = .ok (.return_, 1) := by decide +kernel
def q_AL_init : List (Nat × j_S) := [(0, j_ld 2 0 1),
  (1, j_ci 14 0),
  (4, j_ld 2 0 5),
  (5, j_st (f_psh (.ref 2)) 8),
  (8, j_pf [10] 1 2 11),
  (11, j_rv)]
def i_AL_init : j_I := (R_AL, b_AL_init, 1, true, none, [])
def e_AL_init : j_E := ((y_AL_init, c_AL_init), i_AL_init, j_tab q_AL_init, [])
theorem o_AL_init (G : j_G) : j_mok G tm e_AL_init := ⟨by decide +kernel, Or.inl ⟨rfl, rfl⟩, rfl, (fun _ => rfl), j_tab_ok (i := i_AL_init) (l := q_AL_init) (j_all_mem ⟨r_aload_n d_AL_init_0 rfl,
  r_invI k_144 k_145 rfl rfl cw_Al_init (by decide) (by decide +kernel) d_AL_init_1,
  r_aload_n d_AL_init_4 rfl,
  r_getstatic z_empty k_151 d_AL_init_5,
  r_putfield (fin := false) (j_all_mem ⟨⟨_, _, _, t_AL, _, rfl, w_AL, t_AL_ok, n_AL, by decide, rfl, t_AL_ok 1 (by decide), Or.inr (Or.inr (Or.inl ⟨rfl, by first | exact Or.inl ⟨_, rfl⟩ | exact Or.inr ⟨_, rfl⟩⟩)), ⟨_, k_153, Or.inl rfl⟩, (fun h => by cases h)⟩, trivial⟩) (fun h => by cases h) d_AL_init_8,
  r_return d_AL_init_11 rfl, trivial⟩), (fun q h => by cases h), (fun _ => rfl)⟩
theorem d_AL_rangeCheckForAdd_0 : decode b_AL_rangeCheckForAdd 0 = .ok (.iload_n 1, 1) := by decide +kernel
theorem d_AL_rangeCheckForAdd_1 : decode b_AL_rangeCheckForAdd 1 = .ok (.aload_n 0, 1) := by decide +kernel
theorem d_AL_rangeCheckForAdd_2 : decode b_AL_rangeCheckForAdd 2 = .ok (.getfield 48, 3) := by decide +kernel
theorem d_AL_rangeCheckForAdd_5 : decode b_AL_rangeCheckForAdd 5 = .ok (.if_icmp .gt 7, 3) := by decide +kernel
theorem d_AL_rangeCheckForAdd_8 : decode b_AL_rangeCheckForAdd 8 = .ok (.iload_n 1, 1) := by decide +kernel
theorem d_AL_rangeCheckForAdd_9 : decode b_AL_rangeCheckForAdd 9 = .ok (.ifCond .ge 16, 3) := by decide +kernel
theorem d_AL_rangeCheckForAdd_12 : decode b_AL_rangeCheckForAdd 12 = .ok (.new 187, 3) := by decide +kernel
theorem d_AL_rangeCheckForAdd_15 : decode b_AL_rangeCheckForAdd 15 = .ok (.dup, 1) := by decide +kernel
theorem d_AL_rangeCheckForAdd_16 : decode b_AL_rangeCheckForAdd 16 = .ok (.aload_n 0, 1) := by decide +kernel
theorem d_AL_rangeCheckForAdd_17 : decode b_AL_rangeCheckForAdd 17 = .ok (.iload_n 1, 1) := by decide +kernel
theorem d_AL_rangeCheckForAdd_18 : decode b_AL_rangeCheckForAdd 18 = .ok (.invokevirtual 198, 3) := by decide +kernel
theorem d_AL_rangeCheckForAdd_21 : decode b_AL_rangeCheckForAdd 21 = .ok (.invokespecial 193, 3) := by decide +kernel
theorem d_AL_rangeCheckForAdd_24 : decode b_AL_rangeCheckForAdd 24 = .ok (.athrow, 1) := by decide +kernel
theorem d_AL_rangeCheckForAdd_25 : decode b_AL_rangeCheckForAdd 25 = .ok (.return_, 1) := by decide +kernel
def q_AL_rangeCheckForAdd : List (Nat × j_S) := [(0, j_ld 0 1 1),
  (1, j_ld 2 0 2),
  (2, j_gf [10] 2 5),
  (5, j_br (f_ic (fun x y => decide (y < x))) 12 8),
  (8, j_ld 0 1 9),
  (9, j_br (f_if (fun x => decide (0 ≤ x))) 25 12),
  (12, j_no),
  (15, j_st (f_dup) 16),
  (16, j_ld 2 0 17),
  (17, j_ld 0 1 18),
  (18, j_no),
  (21, j_no),
  (24, j_no),
  (25, j_rv)]
def i_AL_rangeCheckForAdd : j_I := (R_AL, b_AL_rangeCheckForAdd, 2, false, none, [])
def e_AL_rangeCheckForAdd : j_E := ((y_AL_rangeCheckForAdd, c_AL_rangeCheckForAdd), i_AL_rangeCheckForAdd, j_tab q_AL_rangeCheckForAdd, [])
theorem o_AL_rangeCheckForAdd (G : j_G) : j_mok G tm e_AL_rangeCheckForAdd := ⟨by decide +kernel, Or.inl ⟨rfl, rfl⟩, rfl, (fun h => by cases h), j_tab_ok (i := i_AL_rangeCheckForAdd) (l := q_AL_rangeCheckForAdd) (j_all_mem ⟨r_iload_n d_AL_rangeCheckForAdd_0 rfl,
  r_aload_n d_AL_rangeCheckForAdd_1 rfl,
  r_getfield (j_all_mem ⟨⟨_, _, _, rfl, w_AL, by decide, ⟨_, k_154, Or.inl rfl⟩⟩, trivial⟩) d_AL_rangeCheckForAdd_2,
  r_ic_gt d_AL_rangeCheckForAdd_5 (by decide),
  r_iload_n d_AL_rangeCheckForAdd_8 rfl,
  r_if_ge d_AL_rangeCheckForAdd_9 (by decide),
  r_no,
  r_dup d_AL_rangeCheckForAdd_15,
  r_aload_n d_AL_rangeCheckForAdd_16 rfl,
  r_iload_n d_AL_rangeCheckForAdd_17 rfl,
  r_no,
  r_no,
  r_no,
  r_return d_AL_rangeCheckForAdd_25 rfl, trivial⟩), (fun q h => by cases h), (fun _ => rfl)⟩
theorem d_AL_remove_0 : decode b_AL_remove 0 = .ok (.iload_n 1, 1) := by decide +kernel
theorem d_AL_remove_1 : decode b_AL_remove 1 = .ok (.aload_n 0, 1) := by decide +kernel
theorem d_AL_remove_2 : decode b_AL_remove 2 = .ok (.getfield 48, 3) := by decide +kernel
theorem d_AL_remove_5 : decode b_AL_remove 5 = .ok (.invokestatic 118, 3) := by decide +kernel
theorem d_AL_remove_8 : decode b_AL_remove 8 = .ok (.pop, 1) := by decide +kernel
theorem d_AL_remove_9 : decode b_AL_remove 9 = .ok (.aload_n 0, 1) := by decide +kernel
theorem d_AL_remove_10 : decode b_AL_remove 10 = .ok (.getfield 9, 3) := by decide +kernel
theorem d_AL_remove_13 : decode b_AL_remove 13 = .ok (.astore_n 2, 1) := by decide +kernel
theorem d_AL_remove_14 : decode b_AL_remove 14 = .ok (.aload_n 2, 1) := by decide +kernel
theorem d_AL_remove_15 : decode b_AL_remove 15 = .ok (.iload_n 1, 1) := by decide +kernel
theorem d_AL_remove_16 : decode b_AL_remove 16 = .ok (.aaload, 1) := by decide +kernel
theorem d_AL_remove_17 : decode b_AL_remove 17 = .ok (.astore_n 3, 1) := by decide +kernel
theorem d_AL_remove_18 : decode b_AL_remove 18 = .ok (.aload_n 0, 1) := by decide +kernel
theorem d_AL_remove_19 : decode b_AL_remove 19 = .ok (.aload_n 2, 1) := by decide +kernel
theorem d_AL_remove_20 : decode b_AL_remove 20 = .ok (.iload_n 1, 1) := by decide +kernel
theorem d_AL_remove_21 : decode b_AL_remove 21 = .ok (.invokevirtual 144, 3) := by decide +kernel
theorem d_AL_remove_24 : decode b_AL_remove 24 = .ok (.aload_n 3, 1) := by decide +kernel
theorem d_AL_remove_25 : decode b_AL_remove 25 = .ok (.areturn, 1) := by decide +kernel
def q_AL_remove : List (Nat × j_S) := [(0, j_ld 0 1 1),
  (1, j_ld 2 0 2),
  (2, j_gf [10] 2 5),
  (5, j_cs 109 2),
  (8, j_st (f_pop) 9),
  (9, j_ld 2 0 10),
  (10, j_gf [10] 1 13),
  (13, j_so 2 2 14),
  (14, j_ld 2 2 15),
  (15, j_ld 0 1 16),
  (16, j_alq 17),
  (17, j_so 2 3 18),
  (18, j_ld 2 0 19),
  (19, j_ld 2 2 20),
  (20, j_ld 0 1 21),
  (21, j_cv [(10, 5)] 2),
  (24, j_ld 2 3 25),
  (25, j_rt 2)]
def i_AL_remove : j_I := (R_AL, b_AL_remove, 4, false, (some (.object "java/lang/Object")), [])
def e_AL_remove : j_E := ((y_AL_remove, c_AL_remove), i_AL_remove, j_tab q_AL_remove, [])
theorem o_AL_remove (G : j_G) : j_mok G tm e_AL_remove := ⟨by decide +kernel, Or.inl ⟨rfl, rfl⟩, rfl, (fun h => by cases h), j_tab_ok (i := i_AL_remove) (l := q_AL_remove) (j_all_mem ⟨r_iload_n d_AL_remove_0 rfl,
  r_aload_n d_AL_remove_1 rfl,
  r_getfield (j_all_mem ⟨⟨_, _, _, rfl, w_AL, by decide, ⟨_, k_154, Or.inl rfl⟩⟩, trivial⟩) d_AL_remove_2,
  r_invS k_353 k_354 cw_Ob_checkIndex (by decide) (by decide +kernel) d_AL_remove_5,
  r_pop d_AL_remove_8,
  r_aload_n d_AL_remove_9 rfl,
  r_getfield (j_all_mem ⟨⟨_, _, _, rfl, w_AL, by decide, ⟨_, k_153, Or.inl rfl⟩⟩, trivial⟩) d_AL_remove_10,
  r_astore_n d_AL_remove_13 rfl (by decide),
  r_aload_n d_AL_remove_14 rfl,
  r_iload_n d_AL_remove_15 rfl,
  r_aaload2 d_AL_remove_16,
  r_astore_n d_AL_remove_17 rfl (by decide),
  r_aload_n d_AL_remove_18 rfl,
  r_aload_n d_AL_remove_19 rfl,
  r_iload_n d_AL_remove_20 rfl,
  r_invV (j_all_mem ⟨⟨⟨_, _, _, rfl, k_616, k_618, kp_AL_fastRemove⟩, cw_AL_fastRemove, by decide, by decide +kernel⟩, trivial⟩) d_AL_remove_21,
  r_aload_n d_AL_remove_24 rfl,
  r_areturn d_AL_remove_25 rfl (by first | exact Or.inl ⟨_, rfl⟩ | exact Or.inr ⟨_, rfl⟩), trivial⟩), (fun q h => by cases h), (fun _ => rfl)⟩
theorem d_AL_size_0 : decode b_AL_size 0 = .ok (.aload_n 0, 1) := by decide +kernel
theorem d_AL_size_1 : decode b_AL_size 1 = .ok (.getfield 48, 3) := by decide +kernel
theorem d_AL_size_4 : decode b_AL_size 4 = .ok (.ireturn, 1) := by decide +kernel
def q_AL_size : List (Nat × j_S) := [(0, j_ld 2 0 1),
  (1, j_gf [10] 2 4),
  (4, j_rt 0)]
def i_AL_size : j_I := (R_AL, b_AL_size, 1, false, (some .int), [])
def e_AL_size : j_E := ((y_AL_size, c_AL_size), i_AL_size, j_tab q_AL_size, [])
theorem o_AL_size (G : j_G) : j_mok G tm e_AL_size := ⟨by decide +kernel, Or.inl ⟨rfl, rfl⟩, rfl, (fun h => by cases h), j_tab_ok (i := i_AL_size) (l := q_AL_size) (j_all_mem ⟨r_aload_n d_AL_size_0 rfl,
  r_getfield (j_all_mem ⟨⟨_, _, _, rfl, w_AL, by decide, ⟨_, k_154, Or.inl rfl⟩⟩, trivial⟩) d_AL_size_1,
  r_ireturn d_AL_size_4 rfl, trivial⟩), (fun q h => by cases h), (fun _ => rfl)⟩
theorem d_Ac_init_0 : decode b_Ac_init 0 = .ok (.aload_n 0, 1) := by decide +kernel
theorem d_Ac_init_1 : decode b_Ac_init 1 = .ok (.invokespecial 1, 3) := by decide +kernel
theorem d_Ac_init_4 : decode b_Ac_init 4 = .ok (.return_, 1) := by decide +kernel
def q_Ac_init : List (Nat × j_S) := [(0, j_ld 2 0 1),
  (1, j_oi 4),
  (4, j_rv)]
def i_Ac_init : j_I := (R_Ac, b_Ac_init, 1, true, none, [])
def e_Ac_init : j_E := ((y_Ac_init, c_Ac_init), i_Ac_init, j_tab q_Ac_init, [])
theorem o_Ac_init (G : j_G) : j_mok G tm e_Ac_init := ⟨by decide +kernel, Or.inl ⟨rfl, rfl⟩, rfl, (fun _ => rfl), j_tab_ok (i := i_Ac_init) (l := q_Ac_init) (j_all_mem ⟨r_aload_n d_Ac_init_0 rfl,
  r_objInit k_150 k_oi k_oc d_Ac_init_1,
  r_return d_Ac_init_4 rfl, trivial⟩), (fun q h => by cases h), (fun _ => rfl)⟩
theorem d_Al_init_0 : decode b_Al_init 0 = .ok (.aload_n 0, 1) := by decide +kernel
theorem d_Al_init_1 : decode b_Al_init 1 = .ok (.invokespecial 1, 3) := by decide +kernel
theorem d_Al_init_4 : decode b_Al_init 4 = .ok (.aload_n 0, 1) := by decide +kernel
theorem d_Al_init_5 : decode b_Al_init 5 = .ok (.iconst 0, 1) := by decide +kernel
theorem d_Al_init_6 : decode b_Al_init 6 = .ok (.putfield 7, 3) := by decide +kernel
theorem d_Al_init_9 : decode b_Al_init 9 = .ok (.return_, 1) := by decide +kernel
def q_Al_init : List (Nat × j_S) := [(0, j_ld 2 0 1),
  (1, j_ci 13 0),
  (4, j_ld 2 0 5),
  (5, j_st (f_psh (.int 0)) 6),
  (6, j_pf [10] 0 0 9),
  (9, j_rv)]
def i_Al_init : j_I := (R_Al, b_Al_init, 1, true, none, [])
def e_Al_init : j_E := ((y_Al_init, c_Al_init), i_Al_init, j_tab q_Al_init, [])
theorem o_Al_init (G : j_G) : j_mok G tm e_Al_init := ⟨by decide +kernel, Or.inl ⟨rfl, rfl⟩, rfl, (fun _ => rfl), j_tab_ok (i := i_Al_init) (l := q_Al_init) (j_all_mem ⟨r_aload_n d_Al_init_0 rfl,
  r_invI k_147 k_148 rfl rfl cw_Ac_init (by decide) (by decide +kernel) d_Al_init_1,
  r_aload_n d_Al_init_4 rfl,
  r_iconst d_Al_init_5 (by decide),
  r_putfield (fin := false) (j_all_mem ⟨⟨_, _, _, t_AL, _, rfl, w_AL, t_AL_ok, n_AL, by decide, rfl, t_AL_ok 0 (by decide), Or.inl ⟨rfl, rfl⟩, ⟨_, k_155, Or.inl rfl⟩, (fun h => by cases h)⟩, trivial⟩) (fun h => by cases h) d_Al_init_6,
  r_return d_Al_init_9 rfl, trivial⟩), (fun q h => by cases h), (fun _ => rfl)⟩
theorem d_Ar_copyOf_2aB_0 : decode b_Ar_copyOf_2aB 0 = .ok (.iload_n 1, 1) := by decide +kernel
theorem d_Ar_copyOf_2aB_1 : decode b_Ar_copyOf_2aB 1 = .ok (.aload_n 0, 1) := by decide +kernel
theorem d_Ar_copyOf_2aB_2 : decode b_Ar_copyOf_2aB 2 = .ok (.arraylength, 1) := by decide +kernel
theorem d_Ar_copyOf_2aB_3 : decode b_Ar_copyOf_2aB 3 = .ok (.if_icmp .ne 11, 3) := by decide +kernel
theorem d_Ar_copyOf_2aB_6 : decode b_Ar_copyOf_2aB 6 = .ok (.aload_n 0, 1) := by decide +kernel
theorem d_Ar_copyOf_2aB_7 : decode b_Ar_copyOf_2aB 7 = .ok (.invokevirtual 310, 3) := by decide +kernel
theorem d_Ar_copyOf_2aB_10 : decode b_Ar_copyOf_2aB 10 = .ok (.checkcast 311, 3) := by decide +kernel
theorem d_Ar_copyOf_2aB_13 : decode b_Ar_copyOf_2aB 13 = .ok (.areturn, 1) := by decide +kernel
theorem d_Ar_copyOf_2aB_14 : decode b_Ar_copyOf_2aB 14 = .ok (.iload_n 1, 1) := by decide +kernel
theorem d_Ar_copyOf_2aB_15 : decode b_Ar_copyOf_2aB 15 = .ok (.newarray .byte, 2) := by decide +kernel
theorem d_Ar_copyOf_2aB_17 : decode b_Ar_copyOf_2aB 17 = .ok (.astore_n 2, 1) := by decide +kernel
theorem d_Ar_copyOf_2aB_18 : decode b_Ar_copyOf_2aB 18 = .ok (.aload_n 0, 1) := by decide +kernel
theorem d_Ar_copyOf_2aB_19 : decode b_Ar_copyOf_2aB 19 = .ok (.iconst 0, 1) := by decide +kernel
theorem d_Ar_copyOf_2aB_20 : decode b_Ar_copyOf_2aB 20 = .ok (.aload_n 2, 1) := by decide +kernel
theorem d_Ar_copyOf_2aB_21 : decode b_Ar_copyOf_2aB 21 = .ok (.iconst 0, 1) := by decide +kernel
theorem d_Ar_copyOf_2aB_22 : decode b_Ar_copyOf_2aB 22 = .ok (.aload_n 0, 1) := by decide +kernel
theorem d_Ar_copyOf_2aB_23 : decode b_Ar_copyOf_2aB 23 = .ok (.arraylength, 1) := by decide +kernel
theorem d_Ar_copyOf_2aB_24 : decode b_Ar_copyOf_2aB 24 = .ok (.iload_n 1, 1) := by decide +kernel
theorem d_Ar_copyOf_2aB_25 : decode b_Ar_copyOf_2aB 25 = .ok (.invokestatic 304, 3) := by decide +kernel
theorem d_Ar_copyOf_2aB_28 : decode b_Ar_copyOf_2aB 28 = .ok (.invokestatic 150, 3) := by decide +kernel
theorem d_Ar_copyOf_2aB_31 : decode b_Ar_copyOf_2aB 31 = .ok (.aload_n 2, 1) := by decide +kernel
theorem d_Ar_copyOf_2aB_32 : decode b_Ar_copyOf_2aB 32 = .ok (.areturn, 1) := by decide +kernel
def q_Ar_copyOf_2aB : List (Nat × j_S) := [(0, j_ld 0 1 1),
  (1, j_ld 2 0 2),
  (2, j_an 3),
  (3, j_br (f_ic (fun x y => decide (¬ x = y))) 14 6),
  (6, j_ld 2 0 7),
  (7, j_no),
  (10, j_no),
  (13, j_rt 2),
  (14, j_ld 0 1 15),
  (15, j_na 2 17),
  (17, j_so 2 2 18),
  (18, j_ld 2 0 19),
  (19, j_st (f_psh (.int 0)) 20),
  (20, j_ld 2 2 21),
  (21, j_st (f_psh (.int 0)) 22),
  (22, j_ld 2 0 23),
  (23, j_an 24),
  (24, j_ld 0 1 25),
  (25, j_mn 28),
  (28, j_no),
  (31, j_ld 2 2 32),
  (32, j_rt 2)]
def i_Ar_copyOf_2aB : j_I := (R_Ar, b_Ar_copyOf_2aB, 3, false, (some (.array .byte)), [])
def e_Ar_copyOf_2aB : j_E := ((y_Ar_copyOf_2aB, c_Ar_copyOf_2aB), i_Ar_copyOf_2aB, j_tab q_Ar_copyOf_2aB, [])
theorem o_Ar_copyOf_2aB (G : j_G) : j_mok G tm e_Ar_copyOf_2aB := ⟨by decide +kernel, Or.inl ⟨rfl, rfl⟩, rfl, (fun h => by cases h), j_tab_ok (i := i_Ar_copyOf_2aB) (l := q_Ar_copyOf_2aB) (j_all_mem ⟨r_iload_n d_Ar_copyOf_2aB_0 rfl,
  r_aload_n d_Ar_copyOf_2aB_1 rfl,
  r_alen d_Ar_copyOf_2aB_2,
  r_ic_ne d_Ar_copyOf_2aB_3 (by decide),
  r_aload_n d_Ar_copyOf_2aB_6 rfl,
  r_no,
  r_no,
  r_areturn d_Ar_copyOf_2aB_13 rfl (by first | exact Or.inl ⟨_, rfl⟩ | exact Or.inr ⟨_, rfl⟩),
  r_iload_n d_Ar_copyOf_2aB_14 rfl,
  r_newarray rfl rfl k_56 (by decide) (fun _ => rfl) (fun U cA h1 h2 => Option.some.inj (h2.symm.trans h1)) d_Ar_copyOf_2aB_15,
  r_astore_n d_Ar_copyOf_2aB_17 rfl (by decide),
  r_aload_n d_Ar_copyOf_2aB_18 rfl,
  r_iconst d_Ar_copyOf_2aB_19 (by decide),
  r_aload_n d_Ar_copyOf_2aB_20 rfl,
  r_iconst d_Ar_copyOf_2aB_21 (by decide),
  r_aload_n d_Ar_copyOf_2aB_22 rfl,
  r_alen d_Ar_copyOf_2aB_23,
  r_iload_n d_Ar_copyOf_2aB_24 rfl,
  r_mmin k_497 k_498 k_27 k_499 d_Ar_copyOf_2aB_25,
  r_no,
  r_aload_n d_Ar_copyOf_2aB_31 rfl,
  r_areturn d_Ar_copyOf_2aB_32 rfl (by first | exact Or.inl ⟨_, rfl⟩ | exact Or.inr ⟨_, rfl⟩), trivial⟩), (fun q h => by cases h), (fun _ => rfl)⟩
theorem d_Ar_copyOf_2aI_0 : decode b_Ar_copyOf_2aI 0 = .ok (.iload_n 1, 1) := by decide +kernel
theorem d_Ar_copyOf_2aI_1 : decode b_Ar_copyOf_2aI 1 = .ok (.aload_n 0, 1) := by decide +kernel
theorem d_Ar_copyOf_2aI_2 : decode b_Ar_copyOf_2aI 2 = .ok (.arraylength, 1) := by decide +kernel
theorem d_Ar_copyOf_2aI_3 : decode b_Ar_copyOf_2aI 3 = .ok (.if_icmp .ne 11, 3) := by decide +kernel
theorem d_Ar_copyOf_2aI_6 : decode b_Ar_copyOf_2aI 6 = .ok (.aload_n 0, 1) := by decide +kernel
theorem d_Ar_copyOf_2aI_7 : decode b_Ar_copyOf_2aI 7 = .ok (.invokevirtual 316, 3) := by decide +kernel
theorem d_Ar_copyOf_2aI_10 : decode b_Ar_copyOf_2aI 10 = .ok (.checkcast 317, 3) := by decide +kernel
theorem d_Ar_copyOf_2aI_13 : decode b_Ar_copyOf_2aI 13 = .ok (.areturn, 1) := by decide +kernel
theorem d_Ar_copyOf_2aI_14 : decode b_Ar_copyOf_2aI 14 = .ok (.iload_n 1, 1) := by decide +kernel
theorem d_Ar_copyOf_2aI_15 : decode b_Ar_copyOf_2aI 15 = .ok (.newarray .int, 2) := by decide +kernel
theorem d_Ar_copyOf_2aI_17 : decode b_Ar_copyOf_2aI 17 = .ok (.astore_n 2, 1) := by decide +kernel
theorem d_Ar_copyOf_2aI_18 : decode b_Ar_copyOf_2aI 18 = .ok (.aload_n 0, 1) := by decide +kernel
theorem d_Ar_copyOf_2aI_19 : decode b_Ar_copyOf_2aI 19 = .ok (.iconst 0, 1) := by decide +kernel
theorem d_Ar_copyOf_2aI_20 : decode b_Ar_copyOf_2aI 20 = .ok (.aload_n 2, 1) := by decide +kernel
theorem d_Ar_copyOf_2aI_21 : decode b_Ar_copyOf_2aI 21 = .ok (.iconst 0, 1) := by decide +kernel
theorem d_Ar_copyOf_2aI_22 : decode b_Ar_copyOf_2aI 22 = .ok (.aload_n 0, 1) := by decide +kernel
theorem d_Ar_copyOf_2aI_23 : decode b_Ar_copyOf_2aI 23 = .ok (.arraylength, 1) := by decide +kernel
theorem d_Ar_copyOf_2aI_24 : decode b_Ar_copyOf_2aI 24 = .ok (.iload_n 1, 1) := by decide +kernel
theorem d_Ar_copyOf_2aI_25 : decode b_Ar_copyOf_2aI 25 = .ok (.invokestatic 304, 3) := by decide +kernel
theorem d_Ar_copyOf_2aI_28 : decode b_Ar_copyOf_2aI 28 = .ok (.invokestatic 150, 3) := by decide +kernel
theorem d_Ar_copyOf_2aI_31 : decode b_Ar_copyOf_2aI 31 = .ok (.aload_n 2, 1) := by decide +kernel
theorem d_Ar_copyOf_2aI_32 : decode b_Ar_copyOf_2aI 32 = .ok (.areturn, 1) := by decide +kernel
def q_Ar_copyOf_2aI : List (Nat × j_S) := [(0, j_ld 0 1 1),
  (1, j_ld 2 0 2),
  (2, j_an 3),
  (3, j_br (f_ic (fun x y => decide (¬ x = y))) 14 6),
  (6, j_ld 2 0 7),
  (7, j_no),
  (10, j_no),
  (13, j_rt 2),
  (14, j_ld 0 1 15),
  (15, j_na 0 17),
  (17, j_so 2 2 18),
  (18, j_ld 2 0 19),
  (19, j_st (f_psh (.int 0)) 20),
  (20, j_ld 2 2 21),
  (21, j_st (f_psh (.int 0)) 22),
  (22, j_ld 2 0 23),
  (23, j_an 24),
  (24, j_ld 0 1 25),
  (25, j_mn 28),
  (28, j_cpi 31),
  (31, j_ld 2 2 32),
  (32, j_rt 2)]
def i_Ar_copyOf_2aI : j_I := (R_Ar, b_Ar_copyOf_2aI, 3, false, (some (.array .int)), [])
def e_Ar_copyOf_2aI : j_E := ((y_Ar_copyOf_2aI, c_Ar_copyOf_2aI), i_Ar_copyOf_2aI, j_tab q_Ar_copyOf_2aI, [])
theorem o_Ar_copyOf_2aI (G : j_G) : j_mok G tm e_Ar_copyOf_2aI := ⟨by decide +kernel, Or.inl ⟨rfl, rfl⟩, rfl, (fun h => by cases h), j_tab_ok (i := i_Ar_copyOf_2aI) (l := q_Ar_copyOf_2aI) (j_all_mem ⟨r_iload_n d_Ar_copyOf_2aI_0 rfl,
  r_aload_n d_Ar_copyOf_2aI_1 rfl,
  r_alen d_Ar_copyOf_2aI_2,
  r_ic_ne d_Ar_copyOf_2aI_3 (by decide),
  r_aload_n d_Ar_copyOf_2aI_6 rfl,
  r_no,
  r_no,
  r_areturn d_Ar_copyOf_2aI_13 rfl (by first | exact Or.inl ⟨_, rfl⟩ | exact Or.inr ⟨_, rfl⟩),
  r_iload_n d_Ar_copyOf_2aI_14 rfl,
  r_newarray rfl rfl k_73 (by decide) (fun _ => rfl) (fun U cA h1 h2 => Option.some.inj (h2.symm.trans h1)) d_Ar_copyOf_2aI_15,
  r_astore_n d_Ar_copyOf_2aI_17 rfl (by decide),
  r_aload_n d_Ar_copyOf_2aI_18 rfl,
  r_iconst d_Ar_copyOf_2aI_19 (by decide),
  r_aload_n d_Ar_copyOf_2aI_20 rfl,
  r_iconst d_Ar_copyOf_2aI_21 (by decide),
  r_aload_n d_Ar_copyOf_2aI_22 rfl,
  r_alen d_Ar_copyOf_2aI_23,
  r_iload_n d_Ar_copyOf_2aI_24 rfl,
  r_mmin k_497 k_498 k_27 k_499 d_Ar_copyOf_2aI_25,
  r_copyi ⟨k_500, k_305, k_304, k_22⟩ d_Ar_copyOf_2aI_28,
  r_aload_n d_Ar_copyOf_2aI_31 rfl,
  r_areturn d_Ar_copyOf_2aI_32 rfl (by first | exact Or.inl ⟨_, rfl⟩ | exact Or.inr ⟨_, rfl⟩), trivial⟩), (fun q h => by cases h), (fun _ => rfl)⟩
theorem d_Ar_copyOf_2aLj_0 : decode b_Ar_copyOf_2aLj 0 = .ok (.aload_n 0, 1) := by decide +kernel
theorem d_Ar_copyOf_2aLj_1 : decode b_Ar_copyOf_2aLj 1 = .ok (.iload_n 1, 1) := by decide +kernel
theorem d_Ar_copyOf_2aLj_2 : decode b_Ar_copyOf_2aLj 2 = .ok (.aload_n 0, 1) := by decide +kernel
theorem d_Ar_copyOf_2aLj_3 : decode b_Ar_copyOf_2aLj 3 = .ok (.invokevirtual 86, 3) := by decide +kernel
theorem d_Ar_copyOf_2aLj_6 : decode b_Ar_copyOf_2aLj 6 = .ok (.invokestatic 300, 3) := by decide +kernel
theorem d_Ar_copyOf_2aLj_9 : decode b_Ar_copyOf_2aLj 9 = .ok (.areturn, 1) := by decide +kernel
def q_Ar_copyOf_2aLj : List (Nat × j_S) := [(0, j_ld 2 0 1),
  (1, j_ld 0 1 2),
  (2, j_ld 2 0 3),
  (3, j_gc 6),
  (6, j_cs 18 3),
  (9, j_rt 2)]
def i_Ar_copyOf_2aLj : j_I := (R_Ar, b_Ar_copyOf_2aLj, 2, false, (some (.array (.object "java/lang/Object"))), [])
def e_Ar_copyOf_2aLj : j_E := ((y_Ar_copyOf_2aLj, c_Ar_copyOf_2aLj), i_Ar_copyOf_2aLj, j_tab q_Ar_copyOf_2aLj, [])
theorem o_Ar_copyOf_2aLj (G : j_G) : j_mok G tm e_Ar_copyOf_2aLj := ⟨by decide +kernel, Or.inl ⟨rfl, rfl⟩, rfl, (fun h => by cases h), j_tab_ok (i := i_Ar_copyOf_2aLj) (l := q_Ar_copyOf_2aLj) (j_all_mem ⟨r_aload_n d_Ar_copyOf_2aLj_0 rfl,
  r_iload_n d_Ar_copyOf_2aLj_1 rfl,
  r_aload_n d_Ar_copyOf_2aLj_2 rfl,
  r_getClass k_547 k_1391 k_1390 k_548 k_568 d_Ar_copyOf_2aLj_3,
  r_invS k_569 k_570 cw_Ar_copyOf_3 (by decide) (by decide +kernel) d_Ar_copyOf_2aLj_6,
  r_areturn d_Ar_copyOf_2aLj_9 rfl (by first | exact Or.inl ⟨_, rfl⟩ | exact Or.inr ⟨_, rfl⟩), trivial⟩), (fun q h => by cases h), (fun _ => rfl)⟩
theorem d_Ar_copyOf_3_0 : decode b_Ar_copyOf_3 0 = .ok (.aload_n 2, 1) := by decide +kernel
theorem d_Ar_copyOf_3_1 : decode b_Ar_copyOf_3 1 = .ok (.ldc 110, 2) := by decide +kernel
theorem d_Ar_copyOf_3_3 : decode b_Ar_copyOf_3 3 = .ok (.if_acmp .ne 10, 3) := by decide +kernel
theorem d_Ar_copyOf_3_6 : decode b_Ar_copyOf_3 6 = .ok (.iload_n 1, 1) := by decide +kernel
theorem d_Ar_copyOf_3_7 : decode b_Ar_copyOf_3 7 = .ok (.anewarray 2, 3) := by decide +kernel
theorem d_Ar_copyOf_3_10 : decode b_Ar_copyOf_3 10 = .ok (.goto 14, 3) := by decide +kernel
theorem d_Ar_copyOf_3_13 : decode b_Ar_copyOf_3 13 = .ok (.aload_n 2, 1) := by decide +kernel
theorem d_Ar_copyOf_3_14 : decode b_Ar_copyOf_3 14 = .ok (.invokevirtual 90, 3) := by decide +kernel
theorem d_Ar_copyOf_3_17 : decode b_Ar_copyOf_3 17 = .ok (.iload_n 1, 1) := by decide +kernel
theorem d_Ar_copyOf_3_18 : decode b_Ar_copyOf_3 18 = .ok (.invokestatic 95, 3) := by decide +kernel
theorem d_Ar_copyOf_3_21 : decode b_Ar_copyOf_3 21 = .ok (.checkcast 110, 3) := by decide +kernel
theorem d_Ar_copyOf_3_24 : decode b_Ar_copyOf_3 24 = .ok (.astore_n 3, 1) := by decide +kernel
theorem d_Ar_copyOf_3_25 : decode b_Ar_copyOf_3 25 = .ok (.aload_n 0, 1) := by decide +kernel
theorem d_Ar_copyOf_3_26 : decode b_Ar_copyOf_3 26 = .ok (.iconst 0, 1) := by decide +kernel
theorem d_Ar_copyOf_3_27 : decode b_Ar_copyOf_3 27 = .ok (.aload_n 3, 1) := by decide +kernel
theorem d_Ar_copyOf_3_28 : decode b_Ar_copyOf_3 28 = .ok (.iconst 0, 1) := by decide +kernel
theorem d_Ar_copyOf_3_29 : decode b_Ar_copyOf_3 29 = .ok (.aload_n 0, 1) := by decide +kernel
theorem d_Ar_copyOf_3_30 : decode b_Ar_copyOf_3 30 = .ok (.arraylength, 1) := by decide +kernel
theorem d_Ar_copyOf_3_31 : decode b_Ar_copyOf_3 31 = .ok (.iload_n 1, 1) := by decide +kernel
theorem d_Ar_copyOf_3_32 : decode b_Ar_copyOf_3 32 = .ok (.invokestatic 304, 3) := by decide +kernel
theorem d_Ar_copyOf_3_35 : decode b_Ar_copyOf_3 35 = .ok (.invokestatic 150, 3) := by decide +kernel
theorem d_Ar_copyOf_3_38 : decode b_Ar_copyOf_3 38 = .ok (.aload_n 3, 1) := by decide +kernel
theorem d_Ar_copyOf_3_39 : decode b_Ar_copyOf_3 39 = .ok (.areturn, 1) := by decide +kernel
def q_Ar_copyOf_3 : List (Nat × j_S) := [(0, j_ld 2 2 1),
  (1, j_st (f_psh (.ref 3)) 3),
  (3, j_br (f_ac false) 13 6),
  (6, j_ld 0 1 7),
  (7, j_na 6 10),
  (10, j_st f_id 24),
  (13, j_ld 2 2 14),
  (14, j_no),
  (17, j_ld 0 1 18),
  (18, j_no),
  (21, j_cc [] [6] 24),
  (24, j_so 2 3 25),
  (25, j_ld 2 0 26),
  (26, j_st (f_psh (.int 0)) 27),
  (27, j_ld 2 3 28),
  (28, j_st (f_psh (.int 0)) 29),
  (29, j_ld 2 0 30),
  (30, j_an 31),
  (31, j_ld 0 1 32),
  (32, j_mn 35),
  (35, j_cpq 38),
  (38, j_ld 2 3 39),
  (39, j_rt 2)]
def i_Ar_copyOf_3 : j_I := (R_Ar, b_Ar_copyOf_3, 4, false, (some (.array (.object "java/lang/Object"))), [])
def e_Ar_copyOf_3 : j_E := ((y_Ar_copyOf_3, c_Ar_copyOf_3), i_Ar_copyOf_3, j_tab q_Ar_copyOf_3, [])
theorem o_Ar_copyOf_3 (G : j_G) : j_mok G tm e_Ar_copyOf_3 := ⟨by decide +kernel, Or.inl ⟨rfl, rfl⟩, rfl, (fun h => by cases h), j_tab_ok (i := i_Ar_copyOf_3) (l := q_Ar_copyOf_3) (j_all_mem ⟨r_aload_n d_Ar_copyOf_3_0 rfl,
  r_mirror k_572 d_Ar_copyOf_3_1,
  r_acmpne d_Ar_copyOf_3_3 (by decide),
  r_iload_n d_Ar_copyOf_3_6 rfl,
  r_anewarray rfl rfl k_574 k_573 d_Ar_copyOf_3_7,
  r_goto d_Ar_copyOf_3_10 (by decide),
  r_aload_n d_Ar_copyOf_3_13 rfl,
  r_no,
  r_iload_n d_Ar_copyOf_3_17 rfl,
  r_no,
  r_checkcast k_572 (fun c h => by cases h) (j_all_mem ⟨⟨_, rfl, rfl⟩, trivial⟩) d_Ar_copyOf_3_21,
  r_astore_n d_Ar_copyOf_3_24 rfl (by decide),
  r_aload_n d_Ar_copyOf_3_25 rfl,
  r_iconst d_Ar_copyOf_3_26 (by decide),
  r_aload_n d_Ar_copyOf_3_27 rfl,
  r_iconst d_Ar_copyOf_3_28 (by decide),
  r_aload_n d_Ar_copyOf_3_29 rfl,
  r_alen d_Ar_copyOf_3_30,
  r_iload_n d_Ar_copyOf_3_31 rfl,
  r_mmin k_497 k_498 k_27 k_499 d_Ar_copyOf_3_32,
  r_copyq ⟨k_500, k_305, k_304, k_22⟩ d_Ar_copyOf_3_35,
  r_aload_n d_Ar_copyOf_3_38 rfl,
  r_areturn d_Ar_copyOf_3_39 rfl (by first | exact Or.inl ⟨_, rfl⟩ | exact Or.inr ⟨_, rfl⟩), trivial⟩), (fun q h => by cases h), (fun _ => rfl)⟩
theorem d_Ar_fill_2aI_0 : decode b_Ar_fill_2aI 0 = .ok (.iconst 0, 1) := by decide +kernel
theorem d_Ar_fill_2aI_1 : decode b_Ar_fill_2aI 1 = .ok (.istore_n 2, 1) := by decide +kernel
theorem d_Ar_fill_2aI_2 : decode b_Ar_fill_2aI 2 = .ok (.aload_n 0, 1) := by decide +kernel
theorem d_Ar_fill_2aI_3 : decode b_Ar_fill_2aI 3 = .ok (.arraylength, 1) := by decide +kernel
theorem d_Ar_fill_2aI_4 : decode b_Ar_fill_2aI 4 = .ok (.istore_n 3, 1) := by decide +kernel
theorem d_Ar_fill_2aI_5 : decode b_Ar_fill_2aI 5 = .ok (.iload_n 2, 1) := by decide +kernel
theorem d_Ar_fill_2aI_6 : decode b_Ar_fill_2aI 6 = .ok (.iload_n 3, 1) := by decide +kernel
theorem d_Ar_fill_2aI_7 : decode b_Ar_fill_2aI 7 = .ok (.if_icmp .ge 13, 3) := by decide +kernel
theorem d_Ar_fill_2aI_10 : decode b_Ar_fill_2aI 10 = .ok (.aload_n 0, 1) := by decide +kernel
theorem d_Ar_fill_2aI_11 : decode b_Ar_fill_2aI 11 = .ok (.iload_n 2, 1) := by decide +kernel
theorem d_Ar_fill_2aI_12 : decode b_Ar_fill_2aI 12 = .ok (.iload_n 1, 1) := by decide +kernel
theorem d_Ar_fill_2aI_13 : decode b_Ar_fill_2aI 13 = .ok (.iastore, 1) := by decide +kernel
theorem d_Ar_fill_2aI_14 : decode b_Ar_fill_2aI 14 = .ok (.iinc 2 1, 3) := by decide +kernel
theorem d_Ar_fill_2aI_17 : decode b_Ar_fill_2aI 17 = .ok (.goto (-12), 3) := by decide +kernel
theorem d_Ar_fill_2aI_20 : decode b_Ar_fill_2aI 20 = .ok (.return_, 1) := by decide +kernel
def q_Ar_fill_2aI : List (Nat × j_S) := [(0, j_st (f_psh (.int 0)) 1),
  (1, j_so 0 2 2),
  (2, j_ld 2 0 3),
  (3, j_an 4),
  (4, j_so 0 3 5),
  (5, j_ld 0 2 6),
  (6, j_ld 0 3 7),
  (7, j_br (f_ic (fun x y => decide (y ≤ x))) 20 10),
  (10, j_ld 2 0 11),
  (11, j_ld 0 2 12),
  (12, j_ld 0 1 13),
  (13, j_ai 14),
  (14, j_ic 2 1 17),
  (17, j_st f_id 5),
  (20, j_rv)]
def i_Ar_fill_2aI : j_I := (R_Ar, b_Ar_fill_2aI, 4, false, none, [])
def e_Ar_fill_2aI : j_E := ((y_Ar_fill_2aI, c_Ar_fill_2aI), i_Ar_fill_2aI, j_tab q_Ar_fill_2aI, [])
theorem o_Ar_fill_2aI (G : j_G) : j_mok G tm e_Ar_fill_2aI := ⟨by decide +kernel, Or.inl ⟨rfl, rfl⟩, rfl, (fun h => by cases h), j_tab_ok (i := i_Ar_fill_2aI) (l := q_Ar_fill_2aI) (j_all_mem ⟨r_iconst d_Ar_fill_2aI_0 (by decide),
  r_istore_n d_Ar_fill_2aI_1 rfl (by decide),
  r_aload_n d_Ar_fill_2aI_2 rfl,
  r_alen d_Ar_fill_2aI_3,
  r_istore_n d_Ar_fill_2aI_4 rfl (by decide),
  r_iload_n d_Ar_fill_2aI_5 rfl,
  r_iload_n d_Ar_fill_2aI_6 rfl,
  r_ic_ge d_Ar_fill_2aI_7 (by decide),
  r_aload_n d_Ar_fill_2aI_10 rfl,
  r_iload_n d_Ar_fill_2aI_11 rfl,
  r_iload_n d_Ar_fill_2aI_12 rfl,
  r_iastore d_Ar_fill_2aI_13,
  j_ok_ic d_Ar_fill_2aI_14 rfl (by decide) (by decide),
  r_goto d_Ar_fill_2aI_17 (by decide),
  r_return d_Ar_fill_2aI_20 rfl, trivial⟩), (fun q h => by cases h), (fun _ => rfl)⟩
theorem d_Ar_fill_2aJ_0 : decode b_Ar_fill_2aJ 0 = .ok (.iconst 0, 1) := by decide +kernel
theorem d_Ar_fill_2aJ_1 : decode b_Ar_fill_2aJ 1 = .ok (.istore_n 3, 1) := by decide +kernel
theorem d_Ar_fill_2aJ_2 : decode b_Ar_fill_2aJ 2 = .ok (.aload_n 0, 1) := by decide +kernel
theorem d_Ar_fill_2aJ_3 : decode b_Ar_fill_2aJ 3 = .ok (.arraylength, 1) := by decide +kernel
theorem d_Ar_fill_2aJ_4 : decode b_Ar_fill_2aJ 4 = .ok (.istore 4, 2) := by decide +kernel
theorem d_Ar_fill_2aJ_6 : decode b_Ar_fill_2aJ 6 = .ok (.iload_n 3, 1) := by decide +kernel
theorem d_Ar_fill_2aJ_7 : decode b_Ar_fill_2aJ 7 = .ok (.iload 4, 2) := by decide +kernel
theorem d_Ar_fill_2aJ_9 : decode b_Ar_fill_2aJ 9 = .ok (.if_icmp .ge 13, 3) := by decide +kernel
theorem d_Ar_fill_2aJ_12 : decode b_Ar_fill_2aJ 12 = .ok (.aload_n 0, 1) := by decide +kernel
theorem d_Ar_fill_2aJ_13 : decode b_Ar_fill_2aJ 13 = .ok (.iload_n 3, 1) := by decide +kernel
theorem d_Ar_fill_2aJ_14 : decode b_Ar_fill_2aJ 14 = .ok (.lload_n 1, 1) := by decide +kernel
theorem d_Ar_fill_2aJ_15 : decode b_Ar_fill_2aJ 15 = .ok (.lastore, 1) := by decide +kernel
theorem d_Ar_fill_2aJ_16 : decode b_Ar_fill_2aJ 16 = .ok (.iinc 3 1, 3) := by decide +kernel
theorem d_Ar_fill_2aJ_19 : decode b_Ar_fill_2aJ 19 = .ok (.goto (-13), 3) := by decide +kernel
theorem d_Ar_fill_2aJ_22 : decode b_Ar_fill_2aJ 22 = .ok (.return_, 1) := by decide +kernel
def q_Ar_fill_2aJ : List (Nat × j_S) := [(0, j_st (f_psh (.int 0)) 1),
  (1, j_so 0 3 2),
  (2, j_ld 2 0 3),
  (3, j_an 4),
  (4, j_so 0 4 6),
  (6, j_ld 0 3 7),
  (7, j_ld 0 4 9),
  (9, j_br (f_ic (fun x y => decide (y ≤ x))) 22 12),
  (12, j_ld 2 0 13),
  (13, j_ld 0 3 14),
  (14, j_ld 1 1 15),
  (15, j_aj 16),
  (16, j_ic 3 1 19),
  (19, j_st f_id 6),
  (22, j_rv)]
def i_Ar_fill_2aJ : j_I := (R_Ar, b_Ar_fill_2aJ, 5, false, none, [])
def e_Ar_fill_2aJ : j_E := ((y_Ar_fill_2aJ, c_Ar_fill_2aJ), i_Ar_fill_2aJ, j_tab q_Ar_fill_2aJ, [])
theorem o_Ar_fill_2aJ (G : j_G) : j_mok G tm e_Ar_fill_2aJ := ⟨by decide +kernel, Or.inl ⟨rfl, rfl⟩, rfl, (fun h => by cases h), j_tab_ok (i := i_Ar_fill_2aJ) (l := q_Ar_fill_2aJ) (j_all_mem ⟨r_iconst d_Ar_fill_2aJ_0 (by decide),
  r_istore_n d_Ar_fill_2aJ_1 rfl (by decide),
  r_aload_n d_Ar_fill_2aJ_2 rfl,
  r_alen d_Ar_fill_2aJ_3,
  r_istore d_Ar_fill_2aJ_4 (by decide),
  r_iload_n d_Ar_fill_2aJ_6 rfl,
  r_iload d_Ar_fill_2aJ_7,
  r_ic_ge d_Ar_fill_2aJ_9 (by decide),
  r_aload_n d_Ar_fill_2aJ_12 rfl,
  r_iload_n d_Ar_fill_2aJ_13 rfl,
  r_lload_n d_Ar_fill_2aJ_14 rfl,
  r_lastore d_Ar_fill_2aJ_15,
  j_ok_ic d_Ar_fill_2aJ_16 rfl (by decide) (by decide),
  r_goto d_Ar_fill_2aJ_19 (by decide),
  r_return d_Ar_fill_2aJ_22 rfl, trivial⟩), (fun q h => by cases h), (fun _ => rfl)⟩
theorem d_As_hugeLength_0 : decode b_As_hugeLength 0 = .ok (.iload_n 0, 1) := by decide +kernel
theorem d_As_hugeLength_1 : decode b_As_hugeLength 1 = .ok (.iload_n 1, 1) := by decide +kernel
theorem d_As_hugeLength_2 : decode b_As_hugeLength 2 = .ok (.iadd, 1) := by decide +kernel
theorem d_As_hugeLength_3 : decode b_As_hugeLength 3 = .ok (.istore_n 2, 1) := by decide +kernel
theorem d_As_hugeLength_4 : decode b_As_hugeLength 4 = .ok (.iload_n 2, 1) := by decide +kernel
theorem d_As_hugeLength_5 : decode b_As_hugeLength 5 = .ok (.ifCond .ge 44, 3) := by decide +kernel
theorem d_As_hugeLength_8 : decode b_As_hugeLength 8 = .ok (.new 204, 3) := by decide +kernel
theorem d_As_hugeLength_11 : decode b_As_hugeLength 11 = .ok (.dup, 1) := by decide +kernel
theorem d_As_hugeLength_12 : decode b_As_hugeLength 12 = .ok (.new 89, 3) := by decide +kernel
theorem d_As_hugeLength_15 : decode b_As_hugeLength 15 = .ok (.dup, 1) := by decide +kernel
theorem d_As_hugeLength_16 : decode b_As_hugeLength 16 = .ok (.invokespecial 91, 3) := by decide +kernel
theorem d_As_hugeLength_19 : decode b_As_hugeLength 19 = .ok (.ldc 206, 2) := by decide +kernel
theorem d_As_hugeLength_21 : decode b_As_hugeLength 21 = .ok (.invokevirtual 94, 3) := by decide +kernel
theorem d_As_hugeLength_24 : decode b_As_hugeLength 24 = .ok (.iload_n 0, 1) := by decide +kernel
theorem d_As_hugeLength_25 : decode b_As_hugeLength 25 = .ok (.invokevirtual 98, 3) := by decide +kernel
theorem d_As_hugeLength_28 : decode b_As_hugeLength 28 = .ok (.ldc 208, 2) := by decide +kernel
theorem d_As_hugeLength_30 : decode b_As_hugeLength 30 = .ok (.invokevirtual 94, 3) := by decide +kernel
theorem d_As_hugeLength_33 : decode b_As_hugeLength 33 = .ok (.iload_n 1, 1) := by decide +kernel
theorem d_As_hugeLength_34 : decode b_As_hugeLength 34 = .ok (.invokevirtual 98, 3) := by decide +kernel
theorem d_As_hugeLength_37 : decode b_As_hugeLength 37 = .ok (.ldc 210, 2) := by decide +kernel
theorem d_As_hugeLength_39 : decode b_As_hugeLength 39 = .ok (.invokevirtual 94, 3) := by decide +kernel
theorem d_As_hugeLength_42 : decode b_As_hugeLength 42 = .ok (.invokevirtual 101, 3) := by decide +kernel
theorem d_As_hugeLength_45 : decode b_As_hugeLength 45 = .ok (.invokespecial 212, 3) := by decide +kernel
theorem d_As_hugeLength_48 : decode b_As_hugeLength 48 = .ok (.athrow, 1) := by decide +kernel
theorem d_As_hugeLength_49 : decode b_As_hugeLength 49 = .ok (.iload_n 2, 1) := by decide +kernel
theorem d_As_hugeLength_50 : decode b_As_hugeLength 50 = .ok (.ldc 200, 2) := by decide +kernel
theorem d_As_hugeLength_52 : decode b_As_hugeLength 52 = .ok (.if_icmp .gt 6, 3) := by decide +kernel
theorem d_As_hugeLength_55 : decode b_As_hugeLength 55 = .ok (.ldc 200, 2) := by decide +kernel
theorem d_As_hugeLength_57 : decode b_As_hugeLength 57 = .ok (.ireturn, 1) := by decide +kernel
theorem d_As_hugeLength_58 : decode b_As_hugeLength 58 = .ok (.iload_n 2, 1) := by decide +kernel
theorem d_As_hugeLength_59 : decode b_As_hugeLength 59 = .ok (.ireturn, 1) := by decide +kernel
def q_As_hugeLength : List (Nat × j_S) := [(0, j_ld 0 0 1),
  (1, j_ld 0 1 2),
  (2, j_st (f_ii (fun a b => a + b)) 3),
  (3, j_so 0 2 4),
  (4, j_ld 0 2 5),
  (5, j_br (f_if (fun x => decide (0 ≤ x))) 49 8),
  (8, j_no),
  (11, j_st (f_dup) 12),
  (12, j_no),
  (15, j_st (f_dup) 16),
  (16, j_no),
  (19, j_no),
  (21, j_no),
  (24, j_ld 0 0 25),
  (25, j_no),
  (28, j_no),
  (30, j_no),
  (33, j_ld 0 1 34),
  (34, j_no),
  (37, j_no),
  (39, j_no),
  (42, j_no),
  (45, j_no),
  (48, j_no),
  (49, j_ld 0 2 50),
  (50, j_st (f_psh (.int (2147483639))) 52),
  (52, j_br (f_ic (fun x y => decide (y < x))) 58 55),
  (55, j_st (f_psh (.int (2147483639))) 57),
  (57, j_rt 0),
  (58, j_ld 0 2 59),
  (59, j_rt 0)]
def i_As_hugeLength : j_I := (R_As, b_As_hugeLength, 3, false, (some .int), [])
def e_As_hugeLength : j_E := ((y_As_hugeLength, c_As_hugeLength), i_As_hugeLength, j_tab q_As_hugeLength, [])
theorem o_As_hugeLength (G : j_G) : j_mok G tm e_As_hugeLength := ⟨by decide +kernel, Or.inl ⟨rfl, rfl⟩, rfl, (fun h => by cases h), j_tab_ok (i := i_As_hugeLength) (l := q_As_hugeLength) (j_all_mem ⟨r_iload_n d_As_hugeLength_0 rfl,
  r_iload_n d_As_hugeLength_1 rfl,
  r_iadd d_As_hugeLength_2,
  r_istore_n d_As_hugeLength_3 rfl (by decide),
  r_iload_n d_As_hugeLength_4 rfl,
  r_if_ge d_As_hugeLength_5 (by decide),
  r_no,
  r_dup d_As_hugeLength_11,
  r_no,
  r_dup d_As_hugeLength_15,
  r_no,
  r_no,
  r_no,
  r_iload_n d_As_hugeLength_24 rfl,
  r_no,
  r_no,
  r_no,
  r_iload_n d_As_hugeLength_33 rfl,
  r_no,
  r_no,
  r_no,
  r_no,
  r_no,
  r_no,
  r_iload_n d_As_hugeLength_49 rfl,
  r_ldc k_540 d_As_hugeLength_50,
  r_ic_gt d_As_hugeLength_52 (by decide),
  r_ldc k_540 d_As_hugeLength_55,
  r_ireturn d_As_hugeLength_57 rfl,
  r_iload_n d_As_hugeLength_58 rfl,
  r_ireturn d_As_hugeLength_59 rfl, trivial⟩), (fun q h => by cases h), (fun _ => rfl)⟩
theorem d_As_newLength_0 : decode b_As_newLength 0 = .ok (.iload_n 0, 1) := by decide +kernel
theorem d_As_newLength_1 : decode b_As_newLength 1 = .ok (.iload_n 1, 1) := by decide +kernel
theorem d_As_newLength_2 : decode b_As_newLength 2 = .ok (.iload_n 2, 1) := by decide +kernel
theorem d_As_newLength_3 : decode b_As_newLength 3 = .ok (.invokestatic 194, 3) := by decide +kernel
theorem d_As_newLength_6 : decode b_As_newLength 6 = .ok (.iadd, 1) := by decide +kernel
theorem d_As_newLength_7 : decode b_As_newLength 7 = .ok (.istore_n 3, 1) := by decide +kernel
theorem d_As_newLength_8 : decode b_As_newLength 8 = .ok (.iconst 0, 1) := by decide +kernel
theorem d_As_newLength_9 : decode b_As_newLength 9 = .ok (.iload_n 3, 1) := by decide +kernel
theorem d_As_newLength_10 : decode b_As_newLength 10 = .ok (.if_icmp .ge 11, 3) := by decide +kernel
theorem d_As_newLength_13 : decode b_As_newLength 13 = .ok (.iload_n 3, 1) := by decide +kernel
theorem d_As_newLength_14 : decode b_As_newLength 14 = .ok (.ldc 200, 2) := by decide +kernel
theorem d_As_newLength_16 : decode b_As_newLength 16 = .ok (.if_icmp .gt 5, 3) := by decide +kernel
theorem d_As_newLength_19 : decode b_As_newLength 19 = .ok (.iload_n 3, 1) := by decide +kernel
theorem d_As_newLength_20 : decode b_As_newLength 20 = .ok (.ireturn, 1) := by decide +kernel
theorem d_As_newLength_21 : decode b_As_newLength 21 = .ok (.iload_n 0, 1) := by decide +kernel
theorem d_As_newLength_22 : decode b_As_newLength 22 = .ok (.iload_n 1, 1) := by decide +kernel
theorem d_As_newLength_23 : decode b_As_newLength 23 = .ok (.invokestatic 201, 3) := by decide +kernel
theorem d_As_newLength_26 : decode b_As_newLength 26 = .ok (.ireturn, 1) := by decide +kernel
def q_As_newLength : List (Nat × j_S) := [(0, j_ld 0 0 1),
  (1, j_ld 0 1 2),
  (2, j_ld 0 2 3),
  (3, j_mx 6),
  (6, j_st (f_ii (fun a b => a + b)) 7),
  (7, j_so 0 3 8),
  (8, j_st (f_psh (.int 0)) 9),
  (9, j_ld 0 3 10),
  (10, j_br (f_ic (fun x y => decide (y ≤ x))) 21 13),
  (13, j_ld 0 3 14),
  (14, j_st (f_psh (.int (2147483639))) 16),
  (16, j_br (f_ic (fun x y => decide (y < x))) 21 19),
  (19, j_ld 0 3 20),
  (20, j_rt 0),
  (21, j_ld 0 0 22),
  (22, j_ld 0 1 23),
  (23, j_cs 21 2),
  (26, j_rt 0)]
def i_As_newLength : j_I := (R_As, b_As_newLength, 4, false, (some .int), [])
def e_As_newLength : j_E := ((y_As_newLength, c_As_newLength), i_As_newLength, j_tab q_As_newLength, [])
theorem o_As_newLength (G : j_G) : j_mok G tm e_As_newLength := ⟨by decide +kernel, Or.inl ⟨rfl, rfl⟩, rfl, (fun h => by cases h), j_tab_ok (i := i_As_newLength) (l := q_As_newLength) (j_all_mem ⟨r_iload_n d_As_newLength_0 rfl,
  r_iload_n d_As_newLength_1 rfl,
  r_iload_n d_As_newLength_2 rfl,
  r_mmax k_537 k_538 k_27 k_539 d_As_newLength_3,
  r_iadd d_As_newLength_6,
  r_istore_n d_As_newLength_7 rfl (by decide),
  r_iconst d_As_newLength_8 (by decide),
  r_iload_n d_As_newLength_9 rfl,
  r_ic_ge d_As_newLength_10 (by decide),
  r_iload_n d_As_newLength_13 rfl,
  r_ldc k_540 d_As_newLength_14,
  r_ic_gt d_As_newLength_16 (by decide),
  r_iload_n d_As_newLength_19 rfl,
  r_ireturn d_As_newLength_20 rfl,
  r_iload_n d_As_newLength_21 rfl,
  r_iload_n d_As_newLength_22 rfl,
  r_invS k_541 k_542 cw_As_hugeLength (by decide) (by decide +kernel) d_As_newLength_23,
  r_ireturn d_As_newLength_26 rfl, trivial⟩), (fun q h => by cases h), (fun _ => rfl)⟩
theorem d_Ob_checkIndex_0 : decode b_Ob_checkIndex 0 = .ok (.iload_n 0, 1) := by decide +kernel
theorem d_Ob_checkIndex_1 : decode b_Ob_checkIndex 1 = .ok (.iload_n 1, 1) := by decide +kernel
theorem d_Ob_checkIndex_2 : decode b_Ob_checkIndex 2 = .ok (.aconst_null, 1) := by decide +kernel
theorem d_Ob_checkIndex_3 : decode b_Ob_checkIndex 3 = .ok (.invokestatic 105, 3) := by decide +kernel
theorem d_Ob_checkIndex_6 : decode b_Ob_checkIndex 6 = .ok (.ireturn, 1) := by decide +kernel
def q_Ob_checkIndex : List (Nat × j_S) := [(0, j_ld 0 0 1),
  (1, j_ld 0 1 2),
  (2, j_st (f_psh .null) 3),
  (3, j_cs 110 3),
  (6, j_rt 0)]
def i_Ob_checkIndex : j_I := (R_Ob, b_Ob_checkIndex, 2, false, (some .int), [])
def e_Ob_checkIndex : j_E := ((y_Ob_checkIndex, c_Ob_checkIndex), i_Ob_checkIndex, j_tab q_Ob_checkIndex, [])
theorem o_Ob_checkIndex (G : j_G) : j_mok G tm e_Ob_checkIndex := ⟨by decide +kernel, Or.inl ⟨rfl, rfl⟩, rfl, (fun h => by cases h), j_tab_ok (i := i_Ob_checkIndex) (l := q_Ob_checkIndex) (j_all_mem ⟨r_iload_n d_Ob_checkIndex_0 rfl,
  r_iload_n d_Ob_checkIndex_1 rfl,
  r_null d_Ob_checkIndex_2,
  r_invS k_356 k_357 cw_Pr_checkIndex (by decide) (by decide +kernel) d_Ob_checkIndex_3,
  r_ireturn d_Ob_checkIndex_6 rfl, trivial⟩), (fun q h => by cases h), (fun _ => rfl)⟩
theorem d_Pr_checkIndex_0 : decode b_Pr_checkIndex 0 = .ok (.iload_n 0, 1) := by decide +kernel
theorem d_Pr_checkIndex_1 : decode b_Pr_checkIndex 1 = .ok (.ifCond .lt 8, 3) := by decide +kernel
theorem d_Pr_checkIndex_4 : decode b_Pr_checkIndex 4 = .ok (.iload_n 0, 1) := by decide +kernel
theorem d_Pr_checkIndex_5 : decode b_Pr_checkIndex 5 = .ok (.iload_n 1, 1) := by decide +kernel
theorem d_Pr_checkIndex_6 : decode b_Pr_checkIndex 6 = .ok (.if_icmp .lt 10, 3) := by decide +kernel
theorem d_Pr_checkIndex_9 : decode b_Pr_checkIndex 9 = .ok (.aload_n 2, 1) := by decide +kernel
theorem d_Pr_checkIndex_10 : decode b_Pr_checkIndex 10 = .ok (.iload_n 0, 1) := by decide +kernel
theorem d_Pr_checkIndex_11 : decode b_Pr_checkIndex 11 = .ok (.iload_n 1, 1) := by decide +kernel
theorem d_Pr_checkIndex_12 : decode b_Pr_checkIndex 12 = .ok (.invokestatic 95, 3) := by decide +kernel
theorem d_Pr_checkIndex_15 : decode b_Pr_checkIndex 15 = .ok (.athrow, 1) := by decide +kernel
theorem d_Pr_checkIndex_16 : decode b_Pr_checkIndex 16 = .ok (.iload_n 0, 1) := by decide +kernel
theorem d_Pr_checkIndex_17 : decode b_Pr_checkIndex 17 = .ok (.ireturn, 1) := by decide +kernel
def q_Pr_checkIndex : List (Nat × j_S) := [(0, j_ld 0 0 1),
  (1, j_br (f_if (fun x => decide (x < 0))) 9 4),
  (4, j_ld 0 0 5),
  (5, j_ld 0 1 6),
  (6, j_br (f_ic (fun x y => decide (x < y))) 16 9),
  (9, j_ld 2 2 10),
  (10, j_ld 0 0 11),
  (11, j_ld 0 1 12),
  (12, j_no),
  (15, j_no),
  (16, j_ld 0 0 17),
  (17, j_rt 0)]
def i_Pr_checkIndex : j_I := (R_Pr, b_Pr_checkIndex, 3, false, (some .int), [])
def e_Pr_checkIndex : j_E := ((y_Pr_checkIndex, c_Pr_checkIndex), i_Pr_checkIndex, j_tab q_Pr_checkIndex, [])
theorem o_Pr_checkIndex (G : j_G) : j_mok G tm e_Pr_checkIndex := ⟨by decide +kernel, Or.inl ⟨rfl, rfl⟩, rfl, (fun h => by cases h), j_tab_ok (i := i_Pr_checkIndex) (l := q_Pr_checkIndex) (j_all_mem ⟨r_iload_n d_Pr_checkIndex_0 rfl,
  r_if_lt d_Pr_checkIndex_1 (by decide),
  r_iload_n d_Pr_checkIndex_4 rfl,
  r_iload_n d_Pr_checkIndex_5 rfl,
  r_ic_lt d_Pr_checkIndex_6 (by decide),
  r_aload_n d_Pr_checkIndex_9 rfl,
  r_iload_n d_Pr_checkIndex_10 rfl,
  r_iload_n d_Pr_checkIndex_11 rfl,
  r_no,
  r_no,
  r_iload_n d_Pr_checkIndex_16 rfl,
  r_ireturn d_Pr_checkIndex_17 rfl, trivial⟩), (fun q h => by cases h), (fun _ => rfl)⟩
