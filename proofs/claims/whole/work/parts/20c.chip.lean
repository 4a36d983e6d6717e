/-! the methods of Ch: their instructions, and that each is right (written by wip/whole/gen.py) -/
theorem d_Ch_erase_0 : decode b_Ch_erase 0 = .ok (.aload_n 0, 1) := by decide +kernel
theorem d_Ch_erase_1 : decode b_Ch_erase 1 = .ok (.getfield 11, 3) := by decide +kernel
theorem d_Ch_erase_4 : decode b_Ch_erase 4 = .ok (.iload_n 1, 1) := by decide +kernel
theorem d_Ch_erase_5 : decode b_Ch_erase 5 = .ok (.aaload, 1) := by decide +kernel
theorem d_Ch_erase_6 : decode b_Ch_erase 6 = .ok (.ifnonnull 13, 3) := by decide +kernel
theorem d_Ch_erase_9 : decode b_Ch_erase 9 = .ok (.aload_n 0, 1) := by decide +kernel
theorem d_Ch_erase_10 : decode b_Ch_erase 10 = .ok (.getfield 11, 3) := by decide +kernel
theorem d_Ch_erase_13 : decode b_Ch_erase 13 = .ok (.iload_n 1, 1) := by decide +kernel
theorem d_Ch_erase_14 : decode b_Ch_erase 14 = .ok (.bipush 48, 2) := by decide +kernel
theorem d_Ch_erase_16 : decode b_Ch_erase 16 = .ok (.newarray .long, 2) := by decide +kernel
theorem d_Ch_erase_18 : decode b_Ch_erase 18 = .ok (.aastore, 1) := by decide +kernel
theorem d_Ch_erase_19 : decode b_Ch_erase 19 = .ok (.aload_n 0, 1) := by decide +kernel
theorem d_Ch_erase_20 : decode b_Ch_erase 20 = .ok (.getfield 11, 3) := by decide +kernel
theorem d_Ch_erase_23 : decode b_Ch_erase 23 = .ok (.iload_n 1, 1) := by decide +kernel
theorem d_Ch_erase_24 : decode b_Ch_erase 24 = .ok (.aaload, 1) := by decide +kernel
theorem d_Ch_erase_25 : decode b_Ch_erase 25 = .ok (.ldc2_w 35, 3) := by decide +kernel
theorem d_Ch_erase_28 : decode b_Ch_erase 28 = .ok (.invokestatic 37, 3) := by decide +kernel
theorem d_Ch_erase_31 : decode b_Ch_erase 31 = .ok (.aload_n 0, 1) := by decide +kernel
theorem d_Ch_erase_32 : decode b_Ch_erase 32 = .ok (.getfield 17, 3) := by decide +kernel
theorem d_Ch_erase_35 : decode b_Ch_erase 35 = .ok (.iload_n 1, 1) := by decide +kernel
theorem d_Ch_erase_36 : decode b_Ch_erase 36 = .ok (.iconst 0, 1) := by decide +kernel
theorem d_Ch_erase_37 : decode b_Ch_erase 37 = .ok (.iastore, 1) := by decide +kernel
theorem d_Ch_erase_38 : decode b_Ch_erase 38 = .ok (.return_, 1) := by decide +kernel
def q_Ch_erase : List (Nat × j_S) := [(0, j_ld 2 0 1),
  (1, j_gf [3] 1 4),
  (4, j_ld 0 1 5),
  (5, j_alq 6),
  (6, j_br (f_nl false) 19 9),
  (9, j_ld 2 0 10),
  (10, j_gf [3] 1 13),
  (13, j_ld 0 1 14),
  (14, j_st (f_psh (.int 48)) 16),
  (16, j_na 1 18),
  (18, j_aq 19),
  (19, j_ld 2 0 20),
  (20, j_gf [3] 1 23),
  (23, j_ld 0 1 24),
  (24, j_alq 25),
  (25, j_st (f_psh (.long (-1))) 28),
  (28, j_cs 20 2),
  (31, j_ld 2 0 32),
  (32, j_gf [3] 2 35),
  (35, j_ld 0 1 36),
  (36, j_st (f_psh (.int 0)) 37),
  (37, j_ai 38),
  (38, j_rv)]
def i_Ch_erase : j_I := (R_Ch, b_Ch_erase, 2, false, none, [])
def e_Ch_erase : j_E := ((y_Ch_erase, c_Ch_erase), i_Ch_erase, j_tab q_Ch_erase, [])
theorem o_Ch_erase (G : j_G) : j_mok G tm e_Ch_erase := ⟨by decide +kernel, Or.inl ⟨rfl, rfl⟩, rfl, (fun h => by cases h), j_tab_ok (i := i_Ch_erase) (l := q_Ch_erase) (j_all_mem ⟨r_aload_n d_Ch_erase_0 rfl,
  r_getfield (j_all_mem ⟨⟨_, _, _, rfl, w_Ch, by decide, ⟨_, k_82, Or.inl rfl⟩⟩, trivial⟩) d_Ch_erase_1,
  r_iload_n d_Ch_erase_4 rfl,
  r_aaload2 d_Ch_erase_5,
  r_ifnonnull d_Ch_erase_6 (by decide),
  r_aload_n d_Ch_erase_9 rfl,
  r_getfield (j_all_mem ⟨⟨_, _, _, rfl, w_Ch, by decide, ⟨_, k_82, Or.inl rfl⟩⟩, trivial⟩) d_Ch_erase_10,
  r_iload_n d_Ch_erase_13 rfl,
  r_bipush d_Ch_erase_14 (by decide),
  r_newarray rfl rfl k_117 (by decide) (fun _ => rfl) (fun U cA h1 h2 => Option.some.inj (h2.symm.trans h1)) d_Ch_erase_16,
  r_aastore2 d_Ch_erase_18,
  r_aload_n d_Ch_erase_19 rfl,
  r_getfield (j_all_mem ⟨⟨_, _, _, rfl, w_Ch, by decide, ⟨_, k_82, Or.inl rfl⟩⟩, trivial⟩) d_Ch_erase_20,
  r_iload_n d_Ch_erase_23 rfl,
  r_aaload2 d_Ch_erase_24,
  r_ldc2 k_585 d_Ch_erase_25,
  r_invS k_586 k_587 cw_Ar_fill_2aJ (by decide) (by decide +kernel) d_Ch_erase_28,
  r_aload_n d_Ch_erase_31 rfl,
  r_getfield (j_all_mem ⟨⟨_, _, _, rfl, w_Ch, by decide, ⟨_, k_83, Or.inl rfl⟩⟩, trivial⟩) d_Ch_erase_32,
  r_iload_n d_Ch_erase_35 rfl,
  r_iconst d_Ch_erase_36 (by decide),
  r_iastore d_Ch_erase_37,
  r_return d_Ch_erase_38 rfl, trivial⟩), (fun q h => by cases h), (fun _ => rfl)⟩
theorem d_Ch_forgetUses_0 : decode b_Ch_forgetUses 0 = .ok (.aload_n 0, 1) := by decide +kernel
theorem d_Ch_forgetUses_1 : decode b_Ch_forgetUses 1 = .ok (.getfield 24, 3) := by decide +kernel
theorem d_Ch_forgetUses_4 : decode b_Ch_forgetUses 4 = .ok (.iconst 0, 1) := by decide +kernel
theorem d_Ch_forgetUses_5 : decode b_Ch_forgetUses 5 = .ok (.invokestatic 59, 3) := by decide +kernel
theorem d_Ch_forgetUses_8 : decode b_Ch_forgetUses 8 = .ok (.return_, 1) := by decide +kernel
def q_Ch_forgetUses : List (Nat × j_S) := [(0, j_ld 2 0 1),
  (1, j_gf [3] 4 4),
  (4, j_st (f_psh (.int 0)) 5),
  (5, j_cs 19 2),
  (8, j_rv)]
def i_Ch_forgetUses : j_I := (R_Ch, b_Ch_forgetUses, 1, false, none, [])
def e_Ch_forgetUses : j_E := ((y_Ch_forgetUses, c_Ch_forgetUses), i_Ch_forgetUses, j_tab q_Ch_forgetUses, [])
theorem o_Ch_forgetUses (G : j_G) : j_mok G tm e_Ch_forgetUses := ⟨by decide +kernel, Or.inl ⟨rfl, rfl⟩, rfl, (fun h => by cases h), j_tab_ok (i := i_Ch_forgetUses) (l := q_Ch_forgetUses) (j_all_mem ⟨r_aload_n d_Ch_forgetUses_0 rfl,
  r_getfield (j_all_mem ⟨⟨_, _, _, rfl, w_Ch, by decide, ⟨_, k_85, Or.inl rfl⟩⟩, trivial⟩) d_Ch_forgetUses_1,
  r_iconst d_Ch_forgetUses_4 (by decide),
  r_invS k_998 k_64 cw_Ar_fill_2aI (by decide) (by decide +kernel) d_Ch_forgetUses_5,
  r_return d_Ch_forgetUses_8 rfl, trivial⟩), (fun q h => by cases h), (fun _ => rfl)⟩
theorem d_Ch_hasRow_0 : decode b_Ch_hasRow 0 = .ok (.iload_n 1, 1) := by decide +kernel
theorem d_Ch_hasRow_1 : decode b_Ch_hasRow 1 = .ok (.ifCond .lt 41, 3) := by decide +kernel
theorem d_Ch_hasRow_4 : decode b_Ch_hasRow 4 = .ok (.iload_n 1, 1) := by decide +kernel
theorem d_Ch_hasRow_5 : decode b_Ch_hasRow 5 = .ok (.sipush 1000, 3) := by decide +kernel
theorem d_Ch_hasRow_8 : decode b_Ch_hasRow 8 = .ok (.if_icmp .ge 34, 3) := by decide +kernel
theorem d_Ch_hasRow_11 : decode b_Ch_hasRow 11 = .ok (.aload_n 0, 1) := by decide +kernel
theorem d_Ch_hasRow_12 : decode b_Ch_hasRow 12 = .ok (.getfield 11, 3) := by decide +kernel
theorem d_Ch_hasRow_15 : decode b_Ch_hasRow 15 = .ok (.iload_n 1, 1) := by decide +kernel
theorem d_Ch_hasRow_16 : decode b_Ch_hasRow 16 = .ok (.aaload, 1) := by decide +kernel
theorem d_Ch_hasRow_17 : decode b_Ch_hasRow 17 = .ok (.ifnull 25, 3) := by decide +kernel
theorem d_Ch_hasRow_20 : decode b_Ch_hasRow 20 = .ok (.iload_n 2, 1) := by decide +kernel
theorem d_Ch_hasRow_21 : decode b_Ch_hasRow 21 = .ok (.ifCond .lt 21, 3) := by decide +kernel
theorem d_Ch_hasRow_24 : decode b_Ch_hasRow 24 = .ok (.iload_n 2, 1) := by decide +kernel
theorem d_Ch_hasRow_25 : decode b_Ch_hasRow 25 = .ok (.bipush 6, 2) := by decide +kernel
theorem d_Ch_hasRow_27 : decode b_Ch_hasRow 27 = .ok (.iadd, 1) := by decide +kernel
theorem d_Ch_hasRow_28 : decode b_Ch_hasRow 28 = .ok (.aload_n 0, 1) := by decide +kernel
theorem d_Ch_hasRow_29 : decode b_Ch_hasRow 29 = .ok (.getfield 11, 3) := by decide +kernel
theorem d_Ch_hasRow_32 : decode b_Ch_hasRow 32 = .ok (.iload_n 1, 1) := by decide +kernel
theorem d_Ch_hasRow_33 : decode b_Ch_hasRow 33 = .ok (.aaload, 1) := by decide +kernel
theorem d_Ch_hasRow_34 : decode b_Ch_hasRow 34 = .ok (.arraylength, 1) := by decide +kernel
theorem d_Ch_hasRow_35 : decode b_Ch_hasRow 35 = .ok (.if_icmp .gt 7, 3) := by decide +kernel
theorem d_Ch_hasRow_38 : decode b_Ch_hasRow 38 = .ok (.iconst 1, 1) := by decide +kernel
theorem d_Ch_hasRow_39 : decode b_Ch_hasRow 39 = .ok (.goto 4, 3) := by decide +kernel
theorem d_Ch_hasRow_42 : decode b_Ch_hasRow 42 = .ok (.iconst 0, 1) := by decide +kernel
theorem d_Ch_hasRow_43 : decode b_Ch_hasRow 43 = .ok (.ireturn, 1) := by decide +kernel
def q_Ch_hasRow : List (Nat × j_S) := [(0, j_ld 0 1 1),
  (1, j_br (f_if (fun x => decide (x < 0))) 42 4),
  (4, j_ld 0 1 5),
  (5, j_st (f_psh (.int 1000)) 8),
  (8, j_br (f_ic (fun x y => decide (y ≤ x))) 42 11),
  (11, j_ld 2 0 12),
  (12, j_gf [3] 1 15),
  (15, j_ld 0 1 16),
  (16, j_alq 17),
  (17, j_br (f_nl true) 42 20),
  (20, j_ld 0 2 21),
  (21, j_br (f_if (fun x => decide (x < 0))) 42 24),
  (24, j_ld 0 2 25),
  (25, j_st (f_psh (.int 6)) 27),
  (27, j_st (f_ii (fun a b => a + b)) 28),
  (28, j_ld 2 0 29),
  (29, j_gf [3] 1 32),
  (32, j_ld 0 1 33),
  (33, j_alq 34),
  (34, j_an 35),
  (35, j_br (f_ic (fun x y => decide (y < x))) 42 38),
  (38, j_st (f_psh (.int 1)) 39),
  (39, j_st f_id 43),
  (42, j_st (f_psh (.int 0)) 43),
  (43, j_rt 3)]
def i_Ch_hasRow : j_I := (R_Ch, b_Ch_hasRow, 3, false, (some .boolean), [])
def e_Ch_hasRow : j_E := ((y_Ch_hasRow, c_Ch_hasRow), i_Ch_hasRow, j_tab q_Ch_hasRow, [])
theorem o_Ch_hasRow (G : j_G) : j_mok G tm e_Ch_hasRow := ⟨by decide +kernel, Or.inl ⟨rfl, rfl⟩, rfl, (fun h => by cases h), j_tab_ok (i := i_Ch_hasRow) (l := q_Ch_hasRow) (j_all_mem ⟨r_iload_n d_Ch_hasRow_0 rfl,
  r_if_lt d_Ch_hasRow_1 (by decide),
  r_iload_n d_Ch_hasRow_4 rfl,
  r_sipush d_Ch_hasRow_5 (by decide),
  r_ic_ge d_Ch_hasRow_8 (by decide),
  r_aload_n d_Ch_hasRow_11 rfl,
  r_getfield (j_all_mem ⟨⟨_, _, _, rfl, w_Ch, by decide, ⟨_, k_82, Or.inl rfl⟩⟩, trivial⟩) d_Ch_hasRow_12,
  r_iload_n d_Ch_hasRow_15 rfl,
  r_aaload2 d_Ch_hasRow_16,
  r_ifnull d_Ch_hasRow_17 (by decide),
  r_iload_n d_Ch_hasRow_20 rfl,
  r_if_lt d_Ch_hasRow_21 (by decide),
  r_iload_n d_Ch_hasRow_24 rfl,
  r_bipush d_Ch_hasRow_25 (by decide),
  r_iadd d_Ch_hasRow_27,
  r_aload_n d_Ch_hasRow_28 rfl,
  r_getfield (j_all_mem ⟨⟨_, _, _, rfl, w_Ch, by decide, ⟨_, k_82, Or.inl rfl⟩⟩, trivial⟩) d_Ch_hasRow_29,
  r_iload_n d_Ch_hasRow_32 rfl,
  r_aaload2 d_Ch_hasRow_33,
  r_alen d_Ch_hasRow_34,
  r_ic_gt d_Ch_hasRow_35 (by decide),
  r_iconst d_Ch_hasRow_38 (by decide),
  r_goto d_Ch_hasRow_39 (by decide),
  r_iconst d_Ch_hasRow_42 (by decide),
  r_zreturn d_Ch_hasRow_43 rfl, trivial⟩), (fun q h => by cases h), (fun _ => rfl)⟩
theorem d_Ch_init_0 : decode b_Ch_init 0 = .ok (.aload_n 0, 1) := by decide +kernel
theorem d_Ch_init_1 : decode b_Ch_init 1 = .ok (.invokespecial 3, 3) := by decide +kernel
theorem d_Ch_init_4 : decode b_Ch_init 4 = .ok (.aload_n 0, 1) := by decide +kernel
theorem d_Ch_init_5 : decode b_Ch_init 5 = .ok (.sipush 1000, 3) := by decide +kernel
theorem d_Ch_init_8 : decode b_Ch_init 8 = .ok (.anewarray 9, 3) := by decide +kernel
theorem d_Ch_init_11 : decode b_Ch_init 11 = .ok (.putfield 11, 3) := by decide +kernel
theorem d_Ch_init_14 : decode b_Ch_init 14 = .ok (.aload_n 0, 1) := by decide +kernel
theorem d_Ch_init_15 : decode b_Ch_init 15 = .ok (.sipush 1000, 3) := by decide +kernel
theorem d_Ch_init_18 : decode b_Ch_init 18 = .ok (.newarray .int, 2) := by decide +kernel
theorem d_Ch_init_20 : decode b_Ch_init 20 = .ok (.putfield 17, 3) := by decide +kernel
theorem d_Ch_init_23 : decode b_Ch_init 23 = .ok (.aload_n 0, 1) := by decide +kernel
theorem d_Ch_init_24 : decode b_Ch_init 24 = .ok (.sipush 1000, 3) := by decide +kernel
theorem d_Ch_init_27 : decode b_Ch_init 27 = .ok (.newarray .int, 2) := by decide +kernel
theorem d_Ch_init_29 : decode b_Ch_init 29 = .ok (.putfield 21, 3) := by decide +kernel
theorem d_Ch_init_32 : decode b_Ch_init 32 = .ok (.aload_n 0, 1) := by decide +kernel
theorem d_Ch_init_33 : decode b_Ch_init 33 = .ok (.sipush 1000, 3) := by decide +kernel
theorem d_Ch_init_36 : decode b_Ch_init 36 = .ok (.newarray .int, 2) := by decide +kernel
theorem d_Ch_init_38 : decode b_Ch_init 38 = .ok (.putfield 24, 3) := by decide +kernel
theorem d_Ch_init_41 : decode b_Ch_init 41 = .ok (.return_, 1) := by decide +kernel
def q_Ch_init : List (Nat × j_S) := [(0, j_ld 2 0 1),
  (1, j_oi 4),
  (4, j_ld 2 0 5),
  (5, j_st (f_psh (.int 1000)) 8),
  (8, j_na 7 11),
  (11, j_pf [3] 1 2 14),
  (14, j_ld 2 0 15),
  (15, j_st (f_psh (.int 1000)) 18),
  (18, j_na 0 20),
  (20, j_pf [3] 2 2 23),
  (23, j_ld 2 0 24),
  (24, j_st (f_psh (.int 1000)) 27),
  (27, j_na 0 29),
  (29, j_pf [3] 3 2 32),
  (32, j_ld 2 0 33),
  (33, j_st (f_psh (.int 1000)) 36),
  (36, j_na 0 38),
  (38, j_pf [3] 4 2 41),
  (41, j_rv)]
def i_Ch_init : j_I := (R_Ch, b_Ch_init, 1, true, none, [])
def e_Ch_init : j_E := ((y_Ch_init, c_Ch_init), i_Ch_init, j_tab q_Ch_init, [])
theorem o_Ch_init (G : j_G) : j_mok G tm e_Ch_init := ⟨by decide +kernel, Or.inl ⟨rfl, rfl⟩, rfl, (fun _ => rfl), j_tab_ok (i := i_Ch_init) (l := q_Ch_init) (j_all_mem ⟨r_aload_n d_Ch_init_0 rfl,
  r_objInit k_79 k_oi k_oc d_Ch_init_1,
  r_aload_n d_Ch_init_4 rfl,
  r_sipush d_Ch_init_5 (by decide),
  r_anewarrayJ k_80 k_81 d_Ch_init_8,
  r_putfield (fin := true) (j_all_mem ⟨⟨_, _, _, t_Ch, _, rfl, w_Ch, t_Ch_ok, n_Ch, by decide, rfl, t_Ch_ok 1 (by decide), Or.inr (Or.inr (Or.inl ⟨rfl, by first | exact Or.inl ⟨_, rfl⟩ | exact Or.inr ⟨_, rfl⟩⟩)), ⟨_, k_82, Or.inl rfl⟩, (fun _ => rfl)⟩, trivial⟩) (fun _ => rfl) d_Ch_init_11,
  r_aload_n d_Ch_init_14 rfl,
  r_sipush d_Ch_init_15 (by decide),
  r_newarray rfl rfl k_73 (by decide) (fun _ => rfl) (fun U cA h1 h2 => Option.some.inj (h2.symm.trans h1)) d_Ch_init_18,
  r_putfield (fin := true) (j_all_mem ⟨⟨_, _, _, t_Ch, _, rfl, w_Ch, t_Ch_ok, n_Ch, by decide, rfl, t_Ch_ok 2 (by decide), Or.inr (Or.inr (Or.inl ⟨rfl, by first | exact Or.inl ⟨_, rfl⟩ | exact Or.inr ⟨_, rfl⟩⟩)), ⟨_, k_83, Or.inl rfl⟩, (fun _ => rfl)⟩, trivial⟩) (fun _ => rfl) d_Ch_init_20,
  r_aload_n d_Ch_init_23 rfl,
  r_sipush d_Ch_init_24 (by decide),
  r_newarray rfl rfl k_73 (by decide) (fun _ => rfl) (fun U cA h1 h2 => Option.some.inj (h2.symm.trans h1)) d_Ch_init_27,
  r_putfield (fin := true) (j_all_mem ⟨⟨_, _, _, t_Ch, _, rfl, w_Ch, t_Ch_ok, n_Ch, by decide, rfl, t_Ch_ok 3 (by decide), Or.inr (Or.inr (Or.inl ⟨rfl, by first | exact Or.inl ⟨_, rfl⟩ | exact Or.inr ⟨_, rfl⟩⟩)), ⟨_, k_84, Or.inl rfl⟩, (fun _ => rfl)⟩, trivial⟩) (fun _ => rfl) d_Ch_init_29,
  r_aload_n d_Ch_init_32 rfl,
  r_sipush d_Ch_init_33 (by decide),
  r_newarray rfl rfl k_73 (by decide) (fun _ => rfl) (fun U cA h1 h2 => Option.some.inj (h2.symm.trans h1)) d_Ch_init_36,
  r_putfield (fin := true) (j_all_mem ⟨⟨_, _, _, t_Ch, _, rfl, w_Ch, t_Ch_ok, n_Ch, by decide, rfl, t_Ch_ok 4 (by decide), Or.inr (Or.inr (Or.inl ⟨rfl, by first | exact Or.inl ⟨_, rfl⟩ | exact Or.inr ⟨_, rfl⟩⟩)), ⟨_, k_85, Or.inl rfl⟩, (fun _ => rfl)⟩, trivial⟩) (fun _ => rfl) d_Ch_init_38,
  r_return d_Ch_init_41 rfl, trivial⟩), (fun q h => by cases h), (fun _ => rfl)⟩
theorem d_Ch_isMisused_0 : decode b_Ch_isMisused 0 = .ok (.aload_n 0, 1) := by decide +kernel
theorem d_Ch_isMisused_1 : decode b_Ch_isMisused 1 = .ok (.getfield 27, 3) := by decide +kernel
theorem d_Ch_isMisused_4 : decode b_Ch_isMisused 4 = .ok (.ireturn, 1) := by decide +kernel
def q_Ch_isMisused : List (Nat × j_S) := [(0, j_ld 2 0 1),
  (1, j_gf [3] 0 4),
  (4, j_rt 3)]
def i_Ch_isMisused : j_I := (R_Ch, b_Ch_isMisused, 1, false, (some .boolean), [])
def e_Ch_isMisused : j_E := ((y_Ch_isMisused, c_Ch_isMisused), i_Ch_isMisused, j_tab q_Ch_isMisused, [])
theorem o_Ch_isMisused (G : j_G) : j_mok G tm e_Ch_isMisused := ⟨by decide +kernel, Or.inl ⟨rfl, rfl⟩, rfl, (fun h => by cases h), j_tab_ok (i := i_Ch_isMisused) (l := q_Ch_isMisused) (j_all_mem ⟨r_aload_n d_Ch_isMisused_0 rfl,
  r_getfield (j_all_mem ⟨⟨_, _, _, rfl, w_Ch, by decide, ⟨_, k_86, Or.inl rfl⟩⟩, trivial⟩) d_Ch_isMisused_1,
  r_zreturn d_Ch_isMisused_4 rfl, trivial⟩), (fun q h => by cases h), (fun _ => rfl)⟩
theorem d_Ch_read_0 : decode b_Ch_read 0 = .ok (.aload_n 0, 1) := by decide +kernel
theorem d_Ch_read_1 : decode b_Ch_read 1 = .ok (.iload_n 1, 1) := by decide +kernel
theorem d_Ch_read_2 : decode b_Ch_read 2 = .ok (.iload_n 2, 1) := by decide +kernel
theorem d_Ch_read_3 : decode b_Ch_read 3 = .ok (.invokevirtual 43, 3) := by decide +kernel
theorem d_Ch_read_6 : decode b_Ch_read 6 = .ok (.ifCond .eq 20, 3) := by decide +kernel
theorem d_Ch_read_9 : decode b_Ch_read 9 = .ok (.aload_n 0, 1) := by decide +kernel
theorem d_Ch_read_10 : decode b_Ch_read 10 = .ok (.getfield 11, 3) := by decide +kernel
theorem d_Ch_read_13 : decode b_Ch_read 13 = .ok (.iload_n 1, 1) := by decide +kernel
theorem d_Ch_read_14 : decode b_Ch_read 14 = .ok (.aaload, 1) := by decide +kernel
theorem d_Ch_read_15 : decode b_Ch_read 15 = .ok (.iload_n 2, 1) := by decide +kernel
theorem d_Ch_read_16 : decode b_Ch_read 16 = .ok (.aload_n 3, 1) := by decide +kernel
theorem d_Ch_read_17 : decode b_Ch_read 17 = .ok (.invokevirtual 47, 3) := by decide +kernel
theorem d_Ch_read_20 : decode b_Ch_read 20 = .ok (.iconst 0, 1) := by decide +kernel
theorem d_Ch_read_21 : decode b_Ch_read 21 = .ok (.bipush 6, 2) := by decide +kernel
theorem d_Ch_read_23 : decode b_Ch_read 23 = .ok (.invokestatic 53, 3) := by decide +kernel
theorem d_Ch_read_26 : decode b_Ch_read 26 = .ok (.return_, 1) := by decide +kernel
def q_Ch_read : List (Nat × j_S) := [(0, j_ld 2 0 1),
  (1, j_ld 0 1 2),
  (2, j_ld 0 2 3),
  (3, j_cv [(3, 25)] 2),
  (6, j_br (f_if (fun x => decide (x = 0))) 26 9),
  (9, j_ld 2 0 10),
  (10, j_gf [3] 1 13),
  (13, j_ld 0 1 14),
  (14, j_alq 15),
  (15, j_ld 0 2 16),
  (16, j_ld 2 3 17),
  (17, j_cv [(8, 142)] 0),
  (20, j_st (f_psh (.int 0)) 21),
  (21, j_st (f_psh (.int 6)) 23),
  (23, j_cpl 26),
  (26, j_rv)]
def i_Ch_read : j_I := (R_Ch, b_Ch_read, 4, false, none, [])
def e_Ch_read : j_E := ((y_Ch_read, c_Ch_read), i_Ch_read, j_tab q_Ch_read, [])
theorem o_Ch_read (G : j_G) : j_mok G tm e_Ch_read := ⟨by decide +kernel, Or.inl ⟨rfl, rfl⟩, rfl, (fun h => by cases h), j_tab_ok (i := i_Ch_read) (l := q_Ch_read) (j_all_mem ⟨r_aload_n d_Ch_read_0 rfl,
  r_iload_n d_Ch_read_1 rfl,
  r_iload_n d_Ch_read_2 rfl,
  r_invV (j_all_mem ⟨⟨⟨_, _, _, rfl, k_376, k_378, kp_Ch_hasRow⟩, cw_Ch_hasRow, by decide, by decide +kernel⟩, trivial⟩) d_Ch_read_3,
  r_if_eq d_Ch_read_6 (by decide),
  r_aload_n d_Ch_read_9 rfl,
  r_getfield (j_all_mem ⟨⟨_, _, _, rfl, w_Ch, by decide, ⟨_, k_82, Or.inl rfl⟩⟩, trivial⟩) d_Ch_read_10,
  r_iload_n d_Ch_read_13 rfl,
  r_aaload2 d_Ch_read_14,
  r_iload_n d_Ch_read_15 rfl,
  r_aload_n d_Ch_read_16 rfl,
  r_invV (j_all_mem ⟨⟨⟨_, _, _, rfl, k_380, k_300, k_301⟩, cw_Ve_words, by decide, by decide +kernel⟩, trivial⟩) d_Ch_read_17,
  r_iconst d_Ch_read_20 (by decide),
  r_bipush d_Ch_read_21 (by decide),
  r_copyl ⟨k_381, k_305, k_304, k_22⟩ d_Ch_read_23,
  r_return d_Ch_read_26 rfl, trivial⟩), (fun q h => by cases h), (fun _ => rfl)⟩
theorem d_Ch_release_0 : decode b_Ch_release 0 = .ok (.iload_n 1, 1) := by decide +kernel
theorem d_Ch_release_1 : decode b_Ch_release 1 = .ok (.ifCond .lt 17, 3) := by decide +kernel
theorem d_Ch_release_4 : decode b_Ch_release 4 = .ok (.iload_n 1, 1) := by decide +kernel
theorem d_Ch_release_5 : decode b_Ch_release 5 = .ok (.sipush 1000, 3) := by decide +kernel
theorem d_Ch_release_8 : decode b_Ch_release 8 = .ok (.if_icmp .ge 10, 3) := by decide +kernel
theorem d_Ch_release_11 : decode b_Ch_release 11 = .ok (.aload_n 0, 1) := by decide +kernel
theorem d_Ch_release_12 : decode b_Ch_release 12 = .ok (.getfield 21, 3) := by decide +kernel
theorem d_Ch_release_15 : decode b_Ch_release 15 = .ok (.iload_n 1, 1) := by decide +kernel
theorem d_Ch_release_16 : decode b_Ch_release 16 = .ok (.iconst 0, 1) := by decide +kernel
theorem d_Ch_release_17 : decode b_Ch_release 17 = .ok (.iastore, 1) := by decide +kernel
theorem d_Ch_release_18 : decode b_Ch_release 18 = .ok (.return_, 1) := by decide +kernel
def q_Ch_release : List (Nat × j_S) := [(0, j_ld 0 1 1),
  (1, j_br (f_if (fun x => decide (x < 0))) 18 4),
  (4, j_ld 0 1 5),
  (5, j_st (f_psh (.int 1000)) 8),
  (8, j_br (f_ic (fun x y => decide (y ≤ x))) 18 11),
  (11, j_ld 2 0 12),
  (12, j_gf [3] 3 15),
  (15, j_ld 0 1 16),
  (16, j_st (f_psh (.int 0)) 17),
  (17, j_ai 18),
  (18, j_rv)]
def i_Ch_release : j_I := (R_Ch, b_Ch_release, 2, false, none, [])
def e_Ch_release : j_E := ((y_Ch_release, c_Ch_release), i_Ch_release, j_tab q_Ch_release, [])
theorem o_Ch_release (G : j_G) : j_mok G tm e_Ch_release := ⟨by decide +kernel, Or.inl ⟨rfl, rfl⟩, rfl, (fun h => by cases h), j_tab_ok (i := i_Ch_release) (l := q_Ch_release) (j_all_mem ⟨r_iload_n d_Ch_release_0 rfl,
  r_if_lt d_Ch_release_1 (by decide),
  r_iload_n d_Ch_release_4 rfl,
  r_sipush d_Ch_release_5 (by decide),
  r_ic_ge d_Ch_release_8 (by decide),
  r_aload_n d_Ch_release_11 rfl,
  r_getfield (j_all_mem ⟨⟨_, _, _, rfl, w_Ch, by decide, ⟨_, k_84, Or.inl rfl⟩⟩, trivial⟩) d_Ch_release_12,
  r_iload_n d_Ch_release_15 rfl,
  r_iconst d_Ch_release_16 (by decide),
  r_iastore d_Ch_release_17,
  r_return d_Ch_release_18 rfl, trivial⟩), (fun q h => by cases h), (fun _ => rfl)⟩
theorem d_Ch_take_0 : decode b_Ch_take 0 = .ok (.iconst 0, 1) := by decide +kernel
theorem d_Ch_take_1 : decode b_Ch_take 1 = .ok (.istore_n 1, 1) := by decide +kernel
theorem d_Ch_take_2 : decode b_Ch_take 2 = .ok (.iload_n 1, 1) := by decide +kernel
theorem d_Ch_take_3 : decode b_Ch_take 3 = .ok (.sipush 1000, 3) := by decide +kernel
theorem d_Ch_take_6 : decode b_Ch_take 6 = .ok (.if_icmp .ge 32, 3) := by decide +kernel
theorem d_Ch_take_9 : decode b_Ch_take 9 = .ok (.aload_n 0, 1) := by decide +kernel
theorem d_Ch_take_10 : decode b_Ch_take 10 = .ok (.getfield 21, 3) := by decide +kernel
theorem d_Ch_take_13 : decode b_Ch_take 13 = .ok (.iload_n 1, 1) := by decide +kernel
theorem d_Ch_take_14 : decode b_Ch_take 14 = .ok (.iaload, 1) := by decide +kernel
theorem d_Ch_take_15 : decode b_Ch_take 15 = .ok (.ifCond .ne 17, 3) := by decide +kernel
theorem d_Ch_take_18 : decode b_Ch_take 18 = .ok (.aload_n 0, 1) := by decide +kernel
theorem d_Ch_take_19 : decode b_Ch_take 19 = .ok (.getfield 21, 3) := by decide +kernel
theorem d_Ch_take_22 : decode b_Ch_take 22 = .ok (.iload_n 1, 1) := by decide +kernel
theorem d_Ch_take_23 : decode b_Ch_take 23 = .ok (.iconst 1, 1) := by decide +kernel
theorem d_Ch_take_24 : decode b_Ch_take 24 = .ok (.iastore, 1) := by decide +kernel
theorem d_Ch_take_25 : decode b_Ch_take 25 = .ok (.aload_n 0, 1) := by decide +kernel
theorem d_Ch_take_26 : decode b_Ch_take 26 = .ok (.iload_n 1, 1) := by decide +kernel
theorem d_Ch_take_27 : decode b_Ch_take 27 = .ok (.invokevirtual 31, 3) := by decide +kernel
theorem d_Ch_take_30 : decode b_Ch_take 30 = .ok (.iload_n 1, 1) := by decide +kernel
theorem d_Ch_take_31 : decode b_Ch_take 31 = .ok (.ireturn, 1) := by decide +kernel
theorem d_Ch_take_32 : decode b_Ch_take 32 = .ok (.iinc 1 1, 3) := by decide +kernel
theorem d_Ch_take_35 : decode b_Ch_take 35 = .ok (.goto (-33), 3) := by decide +kernel
theorem d_Ch_take_38 : decode b_Ch_take 38 = .ok (.iconst (-1), 1) := by decide +kernel
theorem d_Ch_take_39 : decode b_Ch_take 39 = .ok (.ireturn, 1) := by decide +kernel
def q_Ch_take : List (Nat × j_S) := [(0, j_st (f_psh (.int 0)) 1),
  (1, j_so 0 1 2),
  (2, j_ld 0 1 3),
  (3, j_st (f_psh (.int 1000)) 6),
  (6, j_br (f_ic (fun x y => decide (y ≤ x))) 38 9),
  (9, j_ld 2 0 10),
  (10, j_gf [3] 3 13),
  (13, j_ld 0 1 14),
  (14, j_al 0 15),
  (15, j_br (f_if (fun x => decide (¬ x = 0))) 32 18),
  (18, j_ld 2 0 19),
  (19, j_gf [3] 3 22),
  (22, j_ld 0 1 23),
  (23, j_st (f_psh (.int 1)) 24),
  (24, j_ai 25),
  (25, j_ld 2 0 26),
  (26, j_ld 0 1 27),
  (27, j_cv [(3, 23)] 1),
  (30, j_ld 0 1 31),
  (31, j_rt 0),
  (32, j_ic 1 1 35),
  (35, j_st f_id 2),
  (38, j_st (f_psh (.int (-1))) 39),
  (39, j_rt 0)]
def i_Ch_take : j_I := (R_Ch, b_Ch_take, 2, false, (some .int), [])
def e_Ch_take : j_E := ((y_Ch_take, c_Ch_take), i_Ch_take, j_tab q_Ch_take, [])
theorem o_Ch_take (G : j_G) : j_mok G tm e_Ch_take := ⟨by decide +kernel, Or.inl ⟨rfl, rfl⟩, rfl, (fun h => by cases h), j_tab_ok (i := i_Ch_take) (l := q_Ch_take) (j_all_mem ⟨r_iconst d_Ch_take_0 (by decide),
  r_istore_n d_Ch_take_1 rfl (by decide),
  r_iload_n d_Ch_take_2 rfl,
  r_sipush d_Ch_take_3 (by decide),
  r_ic_ge d_Ch_take_6 (by decide),
  r_aload_n d_Ch_take_9 rfl,
  r_getfield (j_all_mem ⟨⟨_, _, _, rfl, w_Ch, by decide, ⟨_, k_84, Or.inl rfl⟩⟩, trivial⟩) d_Ch_take_10,
  r_iload_n d_Ch_take_13 rfl,
  r_iaload d_Ch_take_14,
  r_if_ne d_Ch_take_15 (by decide),
  r_aload_n d_Ch_take_18 rfl,
  r_getfield (j_all_mem ⟨⟨_, _, _, rfl, w_Ch, by decide, ⟨_, k_84, Or.inl rfl⟩⟩, trivial⟩) d_Ch_take_19,
  r_iload_n d_Ch_take_22 rfl,
  r_iconst d_Ch_take_23 (by decide),
  r_iastore d_Ch_take_24,
  r_aload_n d_Ch_take_25 rfl,
  r_iload_n d_Ch_take_26 rfl,
  r_invV (j_all_mem ⟨⟨⟨_, _, _, rfl, k_581, k_583, kp_Ch_erase⟩, cw_Ch_erase, by decide, by decide +kernel⟩, trivial⟩) d_Ch_take_27,
  r_iload_n d_Ch_take_30 rfl,
  r_ireturn d_Ch_take_31 rfl,
  j_ok_ic d_Ch_take_32 rfl (by decide) (by decide),
  r_goto d_Ch_take_35 (by decide),
  r_iconst d_Ch_take_38 (by decide),
  r_ireturn d_Ch_take_39 rfl, trivial⟩), (fun q h => by cases h), (fun _ => rfl)⟩
theorem d_Ch_use_0 : decode b_Ch_use 0 = .ok (.iload_n 1, 1) := by decide +kernel
theorem d_Ch_use_1 : decode b_Ch_use 1 = .ok (.ifCond .lt 19, 3) := by decide +kernel
theorem d_Ch_use_4 : decode b_Ch_use 4 = .ok (.iload_n 1, 1) := by decide +kernel
theorem d_Ch_use_5 : decode b_Ch_use 5 = .ok (.sipush 1000, 3) := by decide +kernel
theorem d_Ch_use_8 : decode b_Ch_use 8 = .ok (.if_icmp .ge 12, 3) := by decide +kernel
theorem d_Ch_use_11 : decode b_Ch_use 11 = .ok (.aload_n 0, 1) := by decide +kernel
theorem d_Ch_use_12 : decode b_Ch_use 12 = .ok (.getfield 21, 3) := by decide +kernel
theorem d_Ch_use_15 : decode b_Ch_use 15 = .ok (.iload_n 1, 1) := by decide +kernel
theorem d_Ch_use_16 : decode b_Ch_use 16 = .ok (.iaload, 1) := by decide +kernel
theorem d_Ch_use_17 : decode b_Ch_use 17 = .ok (.ifCond .ne 5, 3) := by decide +kernel
theorem d_Ch_use_20 : decode b_Ch_use 20 = .ok (.iconst 0, 1) := by decide +kernel
theorem d_Ch_use_21 : decode b_Ch_use 21 = .ok (.ireturn, 1) := by decide +kernel
theorem d_Ch_use_22 : decode b_Ch_use 22 = .ok (.aload_n 0, 1) := by decide +kernel
theorem d_Ch_use_23 : decode b_Ch_use 23 = .ok (.getfield 24, 3) := by decide +kernel
theorem d_Ch_use_26 : decode b_Ch_use 26 = .ok (.iload_n 1, 1) := by decide +kernel
theorem d_Ch_use_27 : decode b_Ch_use 27 = .ok (.dup2, 1) := by decide +kernel
theorem d_Ch_use_28 : decode b_Ch_use 28 = .ok (.iaload, 1) := by decide +kernel
theorem d_Ch_use_29 : decode b_Ch_use 29 = .ok (.iconst 1, 1) := by decide +kernel
theorem d_Ch_use_30 : decode b_Ch_use 30 = .ok (.iadd, 1) := by decide +kernel
theorem d_Ch_use_31 : decode b_Ch_use 31 = .ok (.iastore, 1) := by decide +kernel
theorem d_Ch_use_32 : decode b_Ch_use 32 = .ok (.aload_n 0, 1) := by decide +kernel
theorem d_Ch_use_33 : decode b_Ch_use 33 = .ok (.getfield 24, 3) := by decide +kernel
theorem d_Ch_use_36 : decode b_Ch_use 36 = .ok (.iload_n 1, 1) := by decide +kernel
theorem d_Ch_use_37 : decode b_Ch_use 37 = .ok (.iaload, 1) := by decide +kernel
theorem d_Ch_use_38 : decode b_Ch_use 38 = .ok (.iconst 1, 1) := by decide +kernel
theorem d_Ch_use_39 : decode b_Ch_use 39 = .ok (.if_icmp .ne 7, 3) := by decide +kernel
theorem d_Ch_use_42 : decode b_Ch_use 42 = .ok (.iconst 1, 1) := by decide +kernel
theorem d_Ch_use_43 : decode b_Ch_use 43 = .ok (.goto 4, 3) := by decide +kernel
theorem d_Ch_use_46 : decode b_Ch_use 46 = .ok (.iconst 0, 1) := by decide +kernel
theorem d_Ch_use_47 : decode b_Ch_use 47 = .ok (.ireturn, 1) := by decide +kernel
def q_Ch_use : List (Nat × j_S) := [(0, j_ld 0 1 1),
  (1, j_br (f_if (fun x => decide (x < 0))) 20 4),
  (4, j_ld 0 1 5),
  (5, j_st (f_psh (.int 1000)) 8),
  (8, j_br (f_ic (fun x y => decide (y ≤ x))) 20 11),
  (11, j_ld 2 0 12),
  (12, j_gf [3] 3 15),
  (15, j_ld 0 1 16),
  (16, j_al 0 17),
  (17, j_br (f_if (fun x => decide (¬ x = 0))) 22 20),
  (20, j_st (f_psh (.int 0)) 21),
  (21, j_rt 3),
  (22, j_ld 2 0 23),
  (23, j_gf [3] 4 26),
  (26, j_ld 0 1 27),
  (27, j_st (f_dup2) 28),
  (28, j_al 0 29),
  (29, j_st (f_psh (.int 1)) 30),
  (30, j_st (f_ii (fun a b => a + b)) 31),
  (31, j_ai 32),
  (32, j_ld 2 0 33),
  (33, j_gf [3] 4 36),
  (36, j_ld 0 1 37),
  (37, j_al 0 38),
  (38, j_st (f_psh (.int 1)) 39),
  (39, j_br (f_ic (fun x y => decide (¬ x = y))) 46 42),
  (42, j_st (f_psh (.int 1)) 43),
  (43, j_st f_id 47),
  (46, j_st (f_psh (.int 0)) 47),
  (47, j_rt 3)]
def i_Ch_use : j_I := (R_Ch, b_Ch_use, 2, false, (some .boolean), [])
def e_Ch_use : j_E := ((y_Ch_use, c_Ch_use), i_Ch_use, j_tab q_Ch_use, [])
theorem o_Ch_use (G : j_G) : j_mok G tm e_Ch_use := ⟨by decide +kernel, Or.inl ⟨rfl, rfl⟩, rfl, (fun h => by cases h), j_tab_ok (i := i_Ch_use) (l := q_Ch_use) (j_all_mem ⟨r_iload_n d_Ch_use_0 rfl,
  r_if_lt d_Ch_use_1 (by decide),
  r_iload_n d_Ch_use_4 rfl,
  r_sipush d_Ch_use_5 (by decide),
  r_ic_ge d_Ch_use_8 (by decide),
  r_aload_n d_Ch_use_11 rfl,
  r_getfield (j_all_mem ⟨⟨_, _, _, rfl, w_Ch, by decide, ⟨_, k_84, Or.inl rfl⟩⟩, trivial⟩) d_Ch_use_12,
  r_iload_n d_Ch_use_15 rfl,
  r_iaload d_Ch_use_16,
  r_if_ne d_Ch_use_17 (by decide),
  r_iconst d_Ch_use_20 (by decide),
  r_zreturn d_Ch_use_21 rfl,
  r_aload_n d_Ch_use_22 rfl,
  r_getfield (j_all_mem ⟨⟨_, _, _, rfl, w_Ch, by decide, ⟨_, k_85, Or.inl rfl⟩⟩, trivial⟩) d_Ch_use_23,
  r_iload_n d_Ch_use_26 rfl,
  r_dup2 d_Ch_use_27,
  r_iaload d_Ch_use_28,
  r_iconst d_Ch_use_29 (by decide),
  r_iadd d_Ch_use_30,
  r_iastore d_Ch_use_31,
  r_aload_n d_Ch_use_32 rfl,
  r_getfield (j_all_mem ⟨⟨_, _, _, rfl, w_Ch, by decide, ⟨_, k_85, Or.inl rfl⟩⟩, trivial⟩) d_Ch_use_33,
  r_iload_n d_Ch_use_36 rfl,
  r_iaload d_Ch_use_37,
  r_iconst d_Ch_use_38 (by decide),
  r_ic_ne d_Ch_use_39 (by decide),
  r_iconst d_Ch_use_42 (by decide),
  r_goto d_Ch_use_43 (by decide),
  r_iconst d_Ch_use_46 (by decide),
  r_zreturn d_Ch_use_47 rfl, trivial⟩), (fun q h => by cases h), (fun _ => rfl)⟩
theorem d_Ch_write_0 : decode b_Ch_write 0 = .ok (.aload_n 0, 1) := by decide +kernel
theorem d_Ch_write_1 : decode b_Ch_write 1 = .ok (.iload_n 1, 1) := by decide +kernel
theorem d_Ch_write_2 : decode b_Ch_write 2 = .ok (.iload_n 2, 1) := by decide +kernel
theorem d_Ch_write_3 : decode b_Ch_write 3 = .ok (.invokevirtual 43, 3) := by decide +kernel
theorem d_Ch_write_6 : decode b_Ch_write 6 = .ok (.ifCond .eq 43, 3) := by decide +kernel
theorem d_Ch_write_9 : decode b_Ch_write 9 = .ok (.iload_n 2, 1) := by decide +kernel
theorem d_Ch_write_10 : decode b_Ch_write 10 = .ok (.aload_n 0, 1) := by decide +kernel
theorem d_Ch_write_11 : decode b_Ch_write 11 = .ok (.getfield 17, 3) := by decide +kernel
theorem d_Ch_write_14 : decode b_Ch_write 14 = .ok (.iload_n 1, 1) := by decide +kernel
theorem d_Ch_write_15 : decode b_Ch_write 15 = .ok (.iaload, 1) := by decide +kernel
theorem d_Ch_write_16 : decode b_Ch_write 16 = .ok (.if_icmp .lt 33, 3) := by decide +kernel
theorem d_Ch_write_19 : decode b_Ch_write 19 = .ok (.aload_n 3, 1) := by decide +kernel
theorem d_Ch_write_20 : decode b_Ch_write 20 = .ok (.invokevirtual 47, 3) := by decide +kernel
theorem d_Ch_write_23 : decode b_Ch_write 23 = .ok (.iconst 0, 1) := by decide +kernel
theorem d_Ch_write_24 : decode b_Ch_write 24 = .ok (.aload_n 0, 1) := by decide +kernel
theorem d_Ch_write_25 : decode b_Ch_write 25 = .ok (.getfield 11, 3) := by decide +kernel
theorem d_Ch_write_28 : decode b_Ch_write 28 = .ok (.iload_n 1, 1) := by decide +kernel
theorem d_Ch_write_29 : decode b_Ch_write 29 = .ok (.aaload, 1) := by decide +kernel
theorem d_Ch_write_30 : decode b_Ch_write 30 = .ok (.iload_n 2, 1) := by decide +kernel
theorem d_Ch_write_31 : decode b_Ch_write 31 = .ok (.bipush 6, 2) := by decide +kernel
theorem d_Ch_write_33 : decode b_Ch_write 33 = .ok (.invokestatic 53, 3) := by decide +kernel
theorem d_Ch_write_36 : decode b_Ch_write 36 = .ok (.aload_n 0, 1) := by decide +kernel
theorem d_Ch_write_37 : decode b_Ch_write 37 = .ok (.getfield 17, 3) := by decide +kernel
theorem d_Ch_write_40 : decode b_Ch_write 40 = .ok (.iload_n 1, 1) := by decide +kernel
theorem d_Ch_write_41 : decode b_Ch_write 41 = .ok (.iload_n 2, 1) := by decide +kernel
theorem d_Ch_write_42 : decode b_Ch_write 42 = .ok (.bipush 6, 2) := by decide +kernel
theorem d_Ch_write_44 : decode b_Ch_write 44 = .ok (.iadd, 1) := by decide +kernel
theorem d_Ch_write_45 : decode b_Ch_write 45 = .ok (.iastore, 1) := by decide +kernel
theorem d_Ch_write_46 : decode b_Ch_write 46 = .ok (.goto 8, 3) := by decide +kernel
theorem d_Ch_write_49 : decode b_Ch_write 49 = .ok (.aload_n 0, 1) := by decide +kernel
theorem d_Ch_write_50 : decode b_Ch_write 50 = .ok (.iconst 1, 1) := by decide +kernel
theorem d_Ch_write_51 : decode b_Ch_write 51 = .ok (.putfield 27, 3) := by decide +kernel
theorem d_Ch_write_54 : decode b_Ch_write 54 = .ok (.return_, 1) := by decide +kernel
def q_Ch_write : List (Nat × j_S) := [(0, j_ld 2 0 1),
  (1, j_ld 0 1 2),
  (2, j_ld 0 2 3),
  (3, j_cv [(3, 25)] 2),
  (6, j_br (f_if (fun x => decide (x = 0))) 49 9),
  (9, j_ld 0 2 10),
  (10, j_ld 2 0 11),
  (11, j_gf [3] 2 14),
  (14, j_ld 0 1 15),
  (15, j_al 0 16),
  (16, j_br (f_ic (fun x y => decide (x < y))) 49 19),
  (19, j_ld 2 3 20),
  (20, j_cv [(8, 142)] 0),
  (23, j_st (f_psh (.int 0)) 24),
  (24, j_ld 2 0 25),
  (25, j_gf [3] 1 28),
  (28, j_ld 0 1 29),
  (29, j_alq 30),
  (30, j_ld 0 2 31),
  (31, j_st (f_psh (.int 6)) 33),
  (33, j_cpl 36),
  (36, j_ld 2 0 37),
  (37, j_gf [3] 2 40),
  (40, j_ld 0 1 41),
  (41, j_ld 0 2 42),
  (42, j_st (f_psh (.int 6)) 44),
  (44, j_st (f_ii (fun a b => a + b)) 45),
  (45, j_ai 46),
  (46, j_st f_id 54),
  (49, j_ld 2 0 50),
  (50, j_st (f_psh (.int 1)) 51),
  (51, j_pf [3] 0 3 54),
  (54, j_rv)]
def i_Ch_write : j_I := (R_Ch, b_Ch_write, 4, false, none, [])
def e_Ch_write : j_E := ((y_Ch_write, c_Ch_write), i_Ch_write, j_tab q_Ch_write, [])
theorem o_Ch_write (G : j_G) : j_mok G tm e_Ch_write := ⟨by decide +kernel, Or.inl ⟨rfl, rfl⟩, rfl, (fun h => by cases h), j_tab_ok (i := i_Ch_write) (l := q_Ch_write) (j_all_mem ⟨r_aload_n d_Ch_write_0 rfl,
  r_iload_n d_Ch_write_1 rfl,
  r_iload_n d_Ch_write_2 rfl,
  r_invV (j_all_mem ⟨⟨⟨_, _, _, rfl, k_376, k_378, kp_Ch_hasRow⟩, cw_Ch_hasRow, by decide, by decide +kernel⟩, trivial⟩) d_Ch_write_3,
  r_if_eq d_Ch_write_6 (by decide),
  r_iload_n d_Ch_write_9 rfl,
  r_aload_n d_Ch_write_10 rfl,
  r_getfield (j_all_mem ⟨⟨_, _, _, rfl, w_Ch, by decide, ⟨_, k_83, Or.inl rfl⟩⟩, trivial⟩) d_Ch_write_11,
  r_iload_n d_Ch_write_14 rfl,
  r_iaload d_Ch_write_15,
  r_ic_lt d_Ch_write_16 (by decide),
  r_aload_n d_Ch_write_19 rfl,
  r_invV (j_all_mem ⟨⟨⟨_, _, _, rfl, k_380, k_300, k_301⟩, cw_Ve_words, by decide, by decide +kernel⟩, trivial⟩) d_Ch_write_20,
  r_iconst d_Ch_write_23 (by decide),
  r_aload_n d_Ch_write_24 rfl,
  r_getfield (j_all_mem ⟨⟨_, _, _, rfl, w_Ch, by decide, ⟨_, k_82, Or.inl rfl⟩⟩, trivial⟩) d_Ch_write_25,
  r_iload_n d_Ch_write_28 rfl,
  r_aaload2 d_Ch_write_29,
  r_iload_n d_Ch_write_30 rfl,
  r_bipush d_Ch_write_31 (by decide),
  r_copyl ⟨k_381, k_305, k_304, k_22⟩ d_Ch_write_33,
  r_aload_n d_Ch_write_36 rfl,
  r_getfield (j_all_mem ⟨⟨_, _, _, rfl, w_Ch, by decide, ⟨_, k_83, Or.inl rfl⟩⟩, trivial⟩) d_Ch_write_37,
  r_iload_n d_Ch_write_40 rfl,
  r_iload_n d_Ch_write_41 rfl,
  r_bipush d_Ch_write_42 (by decide),
  r_iadd d_Ch_write_44,
  r_iastore d_Ch_write_45,
  r_goto d_Ch_write_46 (by decide),
  r_aload_n d_Ch_write_49 rfl,
  r_iconst d_Ch_write_50 (by decide),
  r_putfield (fin := false) (j_all_mem ⟨⟨_, _, _, t_Ch, _, rfl, w_Ch, t_Ch_ok, n_Ch, by decide, rfl, t_Ch_ok 0 (by decide), Or.inr (Or.inr (Or.inr ⟨rfl, rfl⟩)), ⟨_, k_86, Or.inl rfl⟩, (fun h => by cases h)⟩, trivial⟩) (fun h => by cases h) d_Ch_write_51,
  r_return d_Ch_write_54 rfl, trivial⟩), (fun q h => by cases h), (fun _ => rfl)⟩
