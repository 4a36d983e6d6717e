/-! the methods of La: their instructions, and that each is right (written by wip/whole/gen.py) -/
theorem d_La_close_0 : decode b_La_close 0 = .ok (.aload_n 2, 1) := by decide +kernel
theorem d_La_close_1 : decode b_La_close 1 = .ok (.iconst 0, 1) := by decide +kernel
theorem d_La_close_2 : decode b_La_close 2 = .ok (.aload_n 0, 1) := by decide +kernel
theorem d_La_close_3 : decode b_La_close 3 = .ok (.iload_n 1, 1) := by decide +kernel
theorem d_La_close_4 : decode b_La_close 4 = .ok (.invokevirtual 34, 3) := by decide +kernel
theorem d_La_close_7 : decode b_La_close 7 = .ok (.i2l, 1) := by decide +kernel
theorem d_La_close_8 : decode b_La_close 8 = .ok (.lastore, 1) := by decide +kernel
theorem d_La_close_9 : decode b_La_close 9 = .ok (.goto 9, 3) := by decide +kernel
theorem d_La_close_12 : decode b_La_close 12 = .ok (.astore_n 3, 1) := by decide +kernel
theorem d_La_close_13 : decode b_La_close 13 = .ok (.iconst 1, 1) := by decide +kernel
theorem d_La_close_14 : decode b_La_close 14 = .ok (.ireturn, 1) := by decide +kernel
theorem d_La_close_15 : decode b_La_close 15 = .ok (.astore_n 3, 1) := by decide +kernel
theorem d_La_close_16 : decode b_La_close 16 = .ok (.iconst 2, 1) := by decide +kernel
theorem d_La_close_17 : decode b_La_close 17 = .ok (.ireturn, 1) := by decide +kernel
theorem d_La_close_18 : decode b_La_close 18 = .ok (.iconst 0, 1) := by decide +kernel
theorem d_La_close_19 : decode b_La_close 19 = .ok (.ireturn, 1) := by decide +kernel
def q_La_close : List (Nat × j_S) := [(0, j_ld 2 2 1),
  (1, j_st (f_psh (.int 0)) 2),
  (2, j_ld 2 0 3),
  (3, j_ld 0 1 4),
  (4, j_cv [(0, 35)] 1),
  (7, j_st (f_i2l) 8),
  (8, j_aj 9),
  (9, j_st f_id 18),
  (12, j_so 2 3 13),
  (13, j_st (f_psh (.int 1)) 14),
  (14, j_rt 0),
  (15, j_so 2 3 16),
  (16, j_st (f_psh (.int 2)) 17),
  (17, j_rt 0),
  (18, j_st (f_psh (.int 0)) 19),
  (19, j_rt 0)]
def i_La_close : j_I := (R_La, b_La_close, 4, false, (some .int), [(0, 9, 12, 19), (0, 9, 15, 25)])
def e_La_close : j_E := ((y_La_close, c_La_close), i_La_close, j_tab q_La_close, [(4, 0, 12), (4, 1, 15)])
theorem o_La_close (G : j_G) : j_mok G tm e_La_close := ⟨by decide +kernel, Or.inr rfl, rfl, (fun h => by cases h), j_tab_ok (i := i_La_close) (l := q_La_close) (j_all_mem ⟨r_aload_n d_La_close_0 rfl,
  r_iconst d_La_close_1 (by decide),
  r_aload_n d_La_close_2 rfl,
  r_iload_n d_La_close_3 rfl,
  r_invV (j_all_mem ⟨⟨⟨_, _, _, rfl, k_1163, k_1164, k_1165⟩, cw_LT_close, by decide, by decide +kernel⟩, trivial⟩) d_La_close_4,
  r_i2l d_La_close_7,
  r_lastore d_La_close_8,
  r_goto d_La_close_9 (by decide),
  r_astore_n d_La_close_12 rfl (by decide),
  r_iconst d_La_close_13 (by decide),
  r_ireturn d_La_close_14 rfl,
  r_astore_n d_La_close_15 rfl (by decide),
  r_iconst d_La_close_16 (by decide),
  r_ireturn d_La_close_17 rfl,
  r_iconst d_La_close_18 (by decide),
  r_ireturn d_La_close_19 rfl, trivial⟩), (j_all_mem ⟨r_catch (pre := []) (y := (0, 9, 12, 19)) (suf := [(0, 9, 15, 25)]) rfl rfl rfl (by decide) k_1071 k_xc0 (fun z h => by cases h), r_catch (pre := [(0, 9, 12, 19)]) (y := (0, 9, 15, 25)) (suf := []) rfl rfl rfl (by decide) k_1088 k_xc1 (j_all_mem ⟨⟨by decide, _, k_1071, by decide⟩, trivial⟩), trivial⟩), (fun h => by cases h)⟩
theorem d_La_current_0 : decode b_La_current 0 = .ok (.aload_n 2, 1) := by decide +kernel
theorem d_La_current_1 : decode b_La_current 1 = .ok (.iconst 0, 1) := by decide +kernel
theorem d_La_current_2 : decode b_La_current 2 = .ok (.aload_n 0, 1) := by decide +kernel
theorem d_La_current_3 : decode b_La_current 3 = .ok (.iload_n 1, 1) := by decide +kernel
theorem d_La_current_4 : decode b_La_current 4 = .ok (.invokevirtual 46, 3) := by decide +kernel
theorem d_La_current_7 : decode b_La_current 7 = .ok (.i2l, 1) := by decide +kernel
theorem d_La_current_8 : decode b_La_current 8 = .ok (.lastore, 1) := by decide +kernel
theorem d_La_current_9 : decode b_La_current 9 = .ok (.goto 9, 3) := by decide +kernel
theorem d_La_current_12 : decode b_La_current 12 = .ok (.astore_n 3, 1) := by decide +kernel
theorem d_La_current_13 : decode b_La_current 13 = .ok (.iconst 1, 1) := by decide +kernel
theorem d_La_current_14 : decode b_La_current 14 = .ok (.ireturn, 1) := by decide +kernel
theorem d_La_current_15 : decode b_La_current 15 = .ok (.astore_n 3, 1) := by decide +kernel
theorem d_La_current_16 : decode b_La_current 16 = .ok (.iconst 2, 1) := by decide +kernel
theorem d_La_current_17 : decode b_La_current 17 = .ok (.ireturn, 1) := by decide +kernel
theorem d_La_current_18 : decode b_La_current 18 = .ok (.iconst 0, 1) := by decide +kernel
theorem d_La_current_19 : decode b_La_current 19 = .ok (.ireturn, 1) := by decide +kernel
def q_La_current : List (Nat × j_S) := [(0, j_ld 2 2 1),
  (1, j_st (f_psh (.int 0)) 2),
  (2, j_ld 2 0 3),
  (3, j_ld 0 1 4),
  (4, j_cv [(0, 37)] 1),
  (7, j_st (f_i2l) 8),
  (8, j_aj 9),
  (9, j_st f_id 18),
  (12, j_so 2 3 13),
  (13, j_st (f_psh (.int 1)) 14),
  (14, j_rt 0),
  (15, j_so 2 3 16),
  (16, j_st (f_psh (.int 2)) 17),
  (17, j_rt 0),
  (18, j_st (f_psh (.int 0)) 19),
  (19, j_rt 0)]
def i_La_current : j_I := (R_La, b_La_current, 4, false, (some .int), [(0, 9, 12, 19), (0, 9, 15, 40)])
def e_La_current : j_E := ((y_La_current, c_La_current), i_La_current, j_tab q_La_current, [(4, 0, 12), (4, 3, 15)])
theorem o_La_current (G : j_G) : j_mok G tm e_La_current := ⟨by decide +kernel, Or.inr rfl, rfl, (fun h => by cases h), j_tab_ok (i := i_La_current) (l := q_La_current) (j_all_mem ⟨r_aload_n d_La_current_0 rfl,
  r_iconst d_La_current_1 (by decide),
  r_aload_n d_La_current_2 rfl,
  r_iload_n d_La_current_3 rfl,
  r_invV (j_all_mem ⟨⟨⟨_, _, _, rfl, k_1221, k_1222, k_1223⟩, cw_LT_current, by decide, by decide +kernel⟩, trivial⟩) d_La_current_4,
  r_i2l d_La_current_7,
  r_lastore d_La_current_8,
  r_goto d_La_current_9 (by decide),
  r_astore_n d_La_current_12 rfl (by decide),
  r_iconst d_La_current_13 (by decide),
  r_ireturn d_La_current_14 rfl,
  r_astore_n d_La_current_15 rfl (by decide),
  r_iconst d_La_current_16 (by decide),
  r_ireturn d_La_current_17 rfl,
  r_iconst d_La_current_18 (by decide),
  r_ireturn d_La_current_19 rfl, trivial⟩), (j_all_mem ⟨r_catch (pre := []) (y := (0, 9, 12, 19)) (suf := [(0, 9, 15, 40)]) rfl rfl rfl (by decide) k_1071 k_xc0 (fun z h => by cases h), r_catch (pre := [(0, 9, 12, 19)]) (y := (0, 9, 15, 40)) (suf := []) rfl rfl rfl (by decide) k_1174 k_xc3 (j_all_mem ⟨⟨by decide, _, k_1071, by decide⟩, trivial⟩), trivial⟩), (fun h => by cases h)⟩
theorem d_La_end_0 : decode b_La_end 0 = .ok (.aload_n 2, 1) := by decide +kernel
theorem d_La_end_1 : decode b_La_end 1 = .ok (.iconst 0, 1) := by decide +kernel
theorem d_La_end_2 : decode b_La_end 2 = .ok (.aload_n 0, 1) := by decide +kernel
theorem d_La_end_3 : decode b_La_end 3 = .ok (.iload_n 1, 1) := by decide +kernel
theorem d_La_end_4 : decode b_La_end 4 = .ok (.invokevirtual 15, 3) := by decide +kernel
theorem d_La_end_7 : decode b_La_end 7 = .ok (.i2l, 1) := by decide +kernel
theorem d_La_end_8 : decode b_La_end 8 = .ok (.lastore, 1) := by decide +kernel
theorem d_La_end_9 : decode b_La_end 9 = .ok (.goto 6, 3) := by decide +kernel
theorem d_La_end_12 : decode b_La_end 12 = .ok (.astore_n 3, 1) := by decide +kernel
theorem d_La_end_13 : decode b_La_end 13 = .ok (.iconst 1, 1) := by decide +kernel
theorem d_La_end_14 : decode b_La_end 14 = .ok (.ireturn, 1) := by decide +kernel
theorem d_La_end_15 : decode b_La_end 15 = .ok (.iconst 0, 1) := by decide +kernel
theorem d_La_end_16 : decode b_La_end 16 = .ok (.ireturn, 1) := by decide +kernel
def q_La_end : List (Nat × j_S) := [(0, j_ld 2 2 1),
  (1, j_st (f_psh (.int 0)) 2),
  (2, j_ld 2 0 3),
  (3, j_ld 0 1 4),
  (4, j_cv [(0, 38)] 1),
  (7, j_st (f_i2l) 8),
  (8, j_aj 9),
  (9, j_st f_id 15),
  (12, j_so 2 3 13),
  (13, j_st (f_psh (.int 1)) 14),
  (14, j_rt 0),
  (15, j_st (f_psh (.int 0)) 16),
  (16, j_rt 0)]
def i_La_end : j_I := (R_La, b_La_end, 4, false, (some .int), [(0, 9, 12, 19)])
def e_La_end : j_E := ((y_La_end, c_La_end), i_La_end, j_tab q_La_end, [(4, 0, 12)])
theorem o_La_end (G : j_G) : j_mok G tm e_La_end := ⟨by decide +kernel, Or.inr rfl, rfl, (fun h => by cases h), j_tab_ok (i := i_La_end) (l := q_La_end) (j_all_mem ⟨r_aload_n d_La_end_0 rfl,
  r_iconst d_La_end_1 (by decide),
  r_aload_n d_La_end_2 rfl,
  r_iload_n d_La_end_3 rfl,
  r_invV (j_all_mem ⟨⟨⟨_, _, _, rfl, k_1072, k_1073, k_1074⟩, cw_LT_end, by decide, by decide +kernel⟩, trivial⟩) d_La_end_4,
  r_i2l d_La_end_7,
  r_lastore d_La_end_8,
  r_goto d_La_end_9 (by decide),
  r_astore_n d_La_end_12 rfl (by decide),
  r_iconst d_La_end_13 (by decide),
  r_ireturn d_La_end_14 rfl,
  r_iconst d_La_end_15 (by decide),
  r_ireturn d_La_end_16 rfl, trivial⟩), (j_all_mem ⟨r_catch (pre := []) (y := (0, 9, 12, 19)) (suf := []) rfl rfl rfl (by decide) k_1071 k_xc0 (fun z h => by cases h), trivial⟩), (fun h => by cases h)⟩
theorem d_La_feed_0 : decode b_La_feed 0 = .ok (.aload 6, 2) := by decide +kernel
theorem d_La_feed_2 : decode b_La_feed 2 = .ok (.iconst 0, 1) := by decide +kernel
theorem d_La_feed_3 : decode b_La_feed 3 = .ok (.aload_n 0, 1) := by decide +kernel
theorem d_La_feed_4 : decode b_La_feed 4 = .ok (.iload_n 1, 1) := by decide +kernel
theorem d_La_feed_5 : decode b_La_feed 5 = .ok (.iload_n 2, 1) := by decide +kernel
theorem d_La_feed_6 : decode b_La_feed 6 = .ok (.iload_n 3, 1) := by decide +kernel
theorem d_La_feed_7 : decode b_La_feed 7 = .ok (.iload 4, 2) := by decide +kernel
theorem d_La_feed_9 : decode b_La_feed 9 = .ok (.iload 5, 2) := by decide +kernel
theorem d_La_feed_11 : decode b_La_feed 11 = .ok (.invokevirtual 7, 3) := by decide +kernel
theorem d_La_feed_14 : decode b_La_feed 14 = .ok (.i2l, 1) := by decide +kernel
theorem d_La_feed_15 : decode b_La_feed 15 = .ok (.lastore, 1) := by decide +kernel
theorem d_La_feed_16 : decode b_La_feed 16 = .ok (.goto 7, 3) := by decide +kernel
theorem d_La_feed_19 : decode b_La_feed 19 = .ok (.astore 7, 2) := by decide +kernel
theorem d_La_feed_21 : decode b_La_feed 21 = .ok (.iconst 1, 1) := by decide +kernel
theorem d_La_feed_22 : decode b_La_feed 22 = .ok (.ireturn, 1) := by decide +kernel
theorem d_La_feed_23 : decode b_La_feed 23 = .ok (.iconst 0, 1) := by decide +kernel
theorem d_La_feed_24 : decode b_La_feed 24 = .ok (.ireturn, 1) := by decide +kernel
def q_La_feed : List (Nat × j_S) := [(0, j_ld 2 6 2),
  (2, j_st (f_psh (.int 0)) 3),
  (3, j_ld 2 0 4),
  (4, j_ld 0 1 5),
  (5, j_ld 0 2 6),
  (6, j_ld 0 3 7),
  (7, j_ld 0 4 9),
  (9, j_ld 0 5 11),
  (11, j_cv [(0, 39)] 5),
  (14, j_st (f_i2l) 15),
  (15, j_aj 16),
  (16, j_st f_id 23),
  (19, j_so 2 7 21),
  (21, j_st (f_psh (.int 1)) 22),
  (22, j_rt 0),
  (23, j_st (f_psh (.int 0)) 24),
  (24, j_rt 0)]
def i_La_feed : j_I := (R_La, b_La_feed, 8, false, (some .int), [(0, 16, 19, 13)])
def e_La_feed : j_E := ((y_La_feed, c_La_feed), i_La_feed, j_tab q_La_feed, [(11, 2, 19)])
theorem o_La_feed (G : j_G) : j_mok G tm e_La_feed := ⟨by decide +kernel, Or.inr rfl, rfl, (fun h => by cases h), j_tab_ok (i := i_La_feed) (l := q_La_feed) (j_all_mem ⟨r_aload d_La_feed_0,
  r_iconst d_La_feed_2 (by decide),
  r_aload_n d_La_feed_3 rfl,
  r_iload_n d_La_feed_4 rfl,
  r_iload_n d_La_feed_5 rfl,
  r_iload_n d_La_feed_6 rfl,
  r_iload d_La_feed_7,
  r_iload d_La_feed_9,
  r_invV (j_all_mem ⟨⟨⟨_, _, _, rfl, k_1045, k_1046, k_1047⟩, cw_LT_feed, by decide, by decide +kernel⟩, trivial⟩) d_La_feed_11,
  r_i2l d_La_feed_14,
  r_lastore d_La_feed_15,
  r_goto d_La_feed_16 (by decide),
  r_astore d_La_feed_19 (by decide),
  r_iconst d_La_feed_21 (by decide),
  r_ireturn d_La_feed_22 rfl,
  r_iconst d_La_feed_23 (by decide),
  r_ireturn d_La_feed_24 rfl, trivial⟩), (j_all_mem ⟨r_catch (pre := []) (y := (0, 16, 19, 13)) (suf := []) rfl rfl rfl (by decide) k_1044 k_xc2 (fun z h => by cases h), trivial⟩), (fun h => by cases h)⟩
theorem d_La_find_0 : decode b_La_find 0 = .ok (.aload_n 2, 1) := by decide +kernel
theorem d_La_find_1 : decode b_La_find 1 = .ok (.iconst 0, 1) := by decide +kernel
theorem d_La_find_2 : decode b_La_find 2 = .ok (.aload_n 0, 1) := by decide +kernel
theorem d_La_find_3 : decode b_La_find 3 = .ok (.iload_n 1, 1) := by decide +kernel
theorem d_La_find_4 : decode b_La_find 4 = .ok (.invokevirtual 37, 3) := by decide +kernel
theorem d_La_find_7 : decode b_La_find 7 = .ok (.i2l, 1) := by decide +kernel
theorem d_La_find_8 : decode b_La_find 8 = .ok (.lastore, 1) := by decide +kernel
theorem d_La_find_9 : decode b_La_find 9 = .ok (.goto 12, 3) := by decide +kernel
theorem d_La_find_12 : decode b_La_find 12 = .ok (.astore_n 3, 1) := by decide +kernel
theorem d_La_find_13 : decode b_La_find 13 = .ok (.iconst 1, 1) := by decide +kernel
theorem d_La_find_14 : decode b_La_find 14 = .ok (.ireturn, 1) := by decide +kernel
theorem d_La_find_15 : decode b_La_find 15 = .ok (.astore_n 3, 1) := by decide +kernel
theorem d_La_find_16 : decode b_La_find 16 = .ok (.iconst 2, 1) := by decide +kernel
theorem d_La_find_17 : decode b_La_find 17 = .ok (.ireturn, 1) := by decide +kernel
theorem d_La_find_18 : decode b_La_find 18 = .ok (.astore_n 3, 1) := by decide +kernel
theorem d_La_find_19 : decode b_La_find 19 = .ok (.iconst 3, 1) := by decide +kernel
theorem d_La_find_20 : decode b_La_find 20 = .ok (.ireturn, 1) := by decide +kernel
theorem d_La_find_21 : decode b_La_find 21 = .ok (.iconst 0, 1) := by decide +kernel
theorem d_La_find_22 : decode b_La_find 22 = .ok (.ireturn, 1) := by decide +kernel
def q_La_find : List (Nat × j_S) := [(0, j_ld 2 2 1),
  (1, j_st (f_psh (.int 0)) 2),
  (2, j_ld 2 0 3),
  (3, j_ld 0 1 4),
  (4, j_cv [(0, 40)] 1),
  (7, j_st (f_i2l) 8),
  (8, j_aj 9),
  (9, j_st f_id 21),
  (12, j_so 2 3 13),
  (13, j_st (f_psh (.int 1)) 14),
  (14, j_rt 0),
  (15, j_so 2 3 16),
  (16, j_st (f_psh (.int 2)) 17),
  (17, j_rt 0),
  (18, j_so 2 3 19),
  (19, j_st (f_psh (.int 3)) 20),
  (20, j_rt 0),
  (21, j_st (f_psh (.int 0)) 22),
  (22, j_rt 0)]
def i_La_find : j_I := (R_La, b_La_find, 4, false, (some .int), [(0, 9, 12, 19), (0, 9, 15, 25), (0, 9, 18, 40)])
def e_La_find : j_E := ((y_La_find, c_La_find), i_La_find, j_tab q_La_find, [(4, 0, 12), (4, 1, 15), (4, 3, 18)])
theorem o_La_find (G : j_G) : j_mok G tm e_La_find := ⟨by decide +kernel, Or.inr rfl, rfl, (fun h => by cases h), j_tab_ok (i := i_La_find) (l := q_La_find) (j_all_mem ⟨r_aload_n d_La_find_0 rfl,
  r_iconst d_La_find_1 (by decide),
  r_aload_n d_La_find_2 rfl,
  r_iload_n d_La_find_3 rfl,
  r_invV (j_all_mem ⟨⟨⟨_, _, _, rfl, k_1175, k_1176, k_1177⟩, cw_LT_find, by decide, by decide +kernel⟩, trivial⟩) d_La_find_4,
  r_i2l d_La_find_7,
  r_lastore d_La_find_8,
  r_goto d_La_find_9 (by decide),
  r_astore_n d_La_find_12 rfl (by decide),
  r_iconst d_La_find_13 (by decide),
  r_ireturn d_La_find_14 rfl,
  r_astore_n d_La_find_15 rfl (by decide),
  r_iconst d_La_find_16 (by decide),
  r_ireturn d_La_find_17 rfl,
  r_astore_n d_La_find_18 rfl (by decide),
  r_iconst d_La_find_19 (by decide),
  r_ireturn d_La_find_20 rfl,
  r_iconst d_La_find_21 (by decide),
  r_ireturn d_La_find_22 rfl, trivial⟩), (j_all_mem ⟨r_catch (pre := []) (y := (0, 9, 12, 19)) (suf := [(0, 9, 15, 25), (0, 9, 18, 40)]) rfl rfl rfl (by decide) k_1071 k_xc0 (fun z h => by cases h), r_catch (pre := [(0, 9, 12, 19)]) (y := (0, 9, 15, 25)) (suf := [(0, 9, 18, 40)]) rfl rfl rfl (by decide) k_1088 k_xc1 (j_all_mem ⟨⟨by decide, _, k_1071, by decide⟩, trivial⟩), r_catch (pre := [(0, 9, 12, 19), (0, 9, 15, 25)]) (y := (0, 9, 18, 40)) (suf := []) rfl rfl rfl (by decide) k_1174 k_xc3 (j_all_mem ⟨⟨by decide, _, k_1071, by decide⟩, ⟨by decide, _, k_1088, by decide⟩, trivial⟩), trivial⟩), (fun h => by cases h)⟩
theorem d_La_open_0 : decode b_La_open 0 = .ok (.aload_n 2, 1) := by decide +kernel
theorem d_La_open_1 : decode b_La_open 1 = .ok (.iconst 0, 1) := by decide +kernel
theorem d_La_open_2 : decode b_La_open 2 = .ok (.aload_n 0, 1) := by decide +kernel
theorem d_La_open_3 : decode b_La_open 3 = .ok (.iload_n 1, 1) := by decide +kernel
theorem d_La_open_4 : decode b_La_open 4 = .ok (.invokevirtual 31, 3) := by decide +kernel
theorem d_La_open_7 : decode b_La_open 7 = .ok (.i2l, 1) := by decide +kernel
theorem d_La_open_8 : decode b_La_open 8 = .ok (.lastore, 1) := by decide +kernel
theorem d_La_open_9 : decode b_La_open 9 = .ok (.goto 9, 3) := by decide +kernel
theorem d_La_open_12 : decode b_La_open 12 = .ok (.astore_n 3, 1) := by decide +kernel
theorem d_La_open_13 : decode b_La_open 13 = .ok (.iconst 1, 1) := by decide +kernel
theorem d_La_open_14 : decode b_La_open 14 = .ok (.ireturn, 1) := by decide +kernel
theorem d_La_open_15 : decode b_La_open 15 = .ok (.astore_n 3, 1) := by decide +kernel
theorem d_La_open_16 : decode b_La_open 16 = .ok (.iconst 2, 1) := by decide +kernel
theorem d_La_open_17 : decode b_La_open 17 = .ok (.ireturn, 1) := by decide +kernel
theorem d_La_open_18 : decode b_La_open 18 = .ok (.iconst 0, 1) := by decide +kernel
theorem d_La_open_19 : decode b_La_open 19 = .ok (.ireturn, 1) := by decide +kernel
def q_La_open : List (Nat × j_S) := [(0, j_ld 2 2 1),
  (1, j_st (f_psh (.int 0)) 2),
  (2, j_ld 2 0 3),
  (3, j_ld 0 1 4),
  (4, j_cv [(0, 48)] 1),
  (7, j_st (f_i2l) 8),
  (8, j_aj 9),
  (9, j_st f_id 18),
  (12, j_so 2 3 13),
  (13, j_st (f_psh (.int 1)) 14),
  (14, j_rt 0),
  (15, j_so 2 3 16),
  (16, j_st (f_psh (.int 2)) 17),
  (17, j_rt 0),
  (18, j_st (f_psh (.int 0)) 19),
  (19, j_rt 0)]
def i_La_open : j_I := (R_La, b_La_open, 4, false, (some .int), [(0, 9, 12, 19), (0, 9, 15, 25)])
def e_La_open : j_E := ((y_La_open, c_La_open), i_La_open, j_tab q_La_open, [(4, 0, 12), (4, 1, 15)])
theorem o_La_open (G : j_G) : j_mok G tm e_La_open := ⟨by decide +kernel, Or.inr rfl, rfl, (fun h => by cases h), j_tab_ok (i := i_La_open) (l := q_La_open) (j_all_mem ⟨r_aload_n d_La_open_0 rfl,
  r_iconst d_La_open_1 (by decide),
  r_aload_n d_La_open_2 rfl,
  r_iload_n d_La_open_3 rfl,
  r_invV (j_all_mem ⟨⟨⟨_, _, _, rfl, k_1148, k_1149, k_1150⟩, cw_LT_open, by decide, by decide +kernel⟩, trivial⟩) d_La_open_4,
  r_i2l d_La_open_7,
  r_lastore d_La_open_8,
  r_goto d_La_open_9 (by decide),
  r_astore_n d_La_open_12 rfl (by decide),
  r_iconst d_La_open_13 (by decide),
  r_ireturn d_La_open_14 rfl,
  r_astore_n d_La_open_15 rfl (by decide),
  r_iconst d_La_open_16 (by decide),
  r_ireturn d_La_open_17 rfl,
  r_iconst d_La_open_18 (by decide),
  r_ireturn d_La_open_19 rfl, trivial⟩), (j_all_mem ⟨r_catch (pre := []) (y := (0, 9, 12, 19)) (suf := [(0, 9, 15, 25)]) rfl rfl rfl (by decide) k_1071 k_xc0 (fun z h => by cases h), r_catch (pre := [(0, 9, 12, 19)]) (y := (0, 9, 15, 25)) (suf := []) rfl rfl rfl (by decide) k_1088 k_xc1 (j_all_mem ⟨⟨by decide, _, k_1071, by decide⟩, trivial⟩), trivial⟩), (fun h => by cases h)⟩
theorem d_La_out_0 : decode b_La_out 0 = .ok (.aload_n 1, 1) := by decide +kernel
theorem d_La_out_1 : decode b_La_out 1 = .ok (.iconst 0, 1) := by decide +kernel
theorem d_La_out_2 : decode b_La_out 2 = .ok (.aload_n 0, 1) := by decide +kernel
theorem d_La_out_3 : decode b_La_out 3 = .ok (.invokevirtual 27, 3) := by decide +kernel
theorem d_La_out_6 : decode b_La_out 6 = .ok (.i2l, 1) := by decide +kernel
theorem d_La_out_7 : decode b_La_out 7 = .ok (.lastore, 1) := by decide +kernel
theorem d_La_out_8 : decode b_La_out 8 = .ok (.goto 9, 3) := by decide +kernel
theorem d_La_out_11 : decode b_La_out 11 = .ok (.astore_n 2, 1) := by decide +kernel
theorem d_La_out_12 : decode b_La_out 12 = .ok (.iconst 1, 1) := by decide +kernel
theorem d_La_out_13 : decode b_La_out 13 = .ok (.ireturn, 1) := by decide +kernel
theorem d_La_out_14 : decode b_La_out 14 = .ok (.astore_n 2, 1) := by decide +kernel
theorem d_La_out_15 : decode b_La_out 15 = .ok (.iconst 2, 1) := by decide +kernel
theorem d_La_out_16 : decode b_La_out 16 = .ok (.ireturn, 1) := by decide +kernel
theorem d_La_out_17 : decode b_La_out 17 = .ok (.iconst 0, 1) := by decide +kernel
theorem d_La_out_18 : decode b_La_out 18 = .ok (.ireturn, 1) := by decide +kernel
def q_La_out : List (Nat × j_S) := [(0, j_ld 2 1 1),
  (1, j_st (f_psh (.int 0)) 2),
  (2, j_ld 2 0 3),
  (3, j_cv [(0, 49)] 0),
  (6, j_st (f_i2l) 7),
  (7, j_aj 8),
  (8, j_st f_id 17),
  (11, j_so 2 2 12),
  (12, j_st (f_psh (.int 1)) 13),
  (13, j_rt 0),
  (14, j_so 2 2 15),
  (15, j_st (f_psh (.int 2)) 16),
  (16, j_rt 0),
  (17, j_st (f_psh (.int 0)) 18),
  (18, j_rt 0)]
def i_La_out : j_I := (R_La, b_La_out, 3, false, (some .int), [(0, 8, 11, 19), (0, 8, 14, 25)])
def e_La_out : j_E := ((y_La_out, c_La_out), i_La_out, j_tab q_La_out, [(3, 0, 11), (3, 1, 14)])
theorem o_La_out (G : j_G) : j_mok G tm e_La_out := ⟨by decide +kernel, Or.inr rfl, rfl, (fun h => by cases h), j_tab_ok (i := i_La_out) (l := q_La_out) (j_all_mem ⟨r_aload_n d_La_out_0 rfl,
  r_iconst d_La_out_1 (by decide),
  r_aload_n d_La_out_2 rfl,
  r_invV (j_all_mem ⟨⟨⟨_, _, _, rfl, k_1141, k_1142, k_1143⟩, cw_LT_out, by decide, by decide +kernel⟩, trivial⟩) d_La_out_3,
  r_i2l d_La_out_6,
  r_lastore d_La_out_7,
  r_goto d_La_out_8 (by decide),
  r_astore_n d_La_out_11 rfl (by decide),
  r_iconst d_La_out_12 (by decide),
  r_ireturn d_La_out_13 rfl,
  r_astore_n d_La_out_14 rfl (by decide),
  r_iconst d_La_out_15 (by decide),
  r_ireturn d_La_out_16 rfl,
  r_iconst d_La_out_17 (by decide),
  r_ireturn d_La_out_18 rfl, trivial⟩), (j_all_mem ⟨r_catch (pre := []) (y := (0, 8, 11, 19)) (suf := [(0, 8, 14, 25)]) rfl rfl rfl (by decide) k_1071 k_xc0 (fun z h => by cases h), r_catch (pre := [(0, 8, 11, 19)]) (y := (0, 8, 14, 25)) (suf := []) rfl rfl rfl (by decide) k_1088 k_xc1 (j_all_mem ⟨⟨by decide, _, k_1071, by decide⟩, trivial⟩), trivial⟩), (fun h => by cases h)⟩
theorem d_La_put_0 : decode b_La_put 0 = .ok (.aload_n 3, 1) := by decide +kernel
theorem d_La_put_1 : decode b_La_put 1 = .ok (.iconst 0, 1) := by decide +kernel
theorem d_La_put_2 : decode b_La_put 2 = .ok (.aload_n 0, 1) := by decide +kernel
theorem d_La_put_3 : decode b_La_put 3 = .ok (.iload_n 1, 1) := by decide +kernel
theorem d_La_put_4 : decode b_La_put 4 = .ok (.iload_n 2, 1) := by decide +kernel
theorem d_La_put_5 : decode b_La_put 5 = .ok (.invokevirtual 21, 3) := by decide +kernel
theorem d_La_put_8 : decode b_La_put 8 = .ok (.i2l, 1) := by decide +kernel
theorem d_La_put_9 : decode b_La_put 9 = .ok (.lastore, 1) := by decide +kernel
theorem d_La_put_10 : decode b_La_put 10 = .ok (.goto 11, 3) := by decide +kernel
theorem d_La_put_13 : decode b_La_put 13 = .ok (.astore 4, 2) := by decide +kernel
theorem d_La_put_15 : decode b_La_put 15 = .ok (.iconst 1, 1) := by decide +kernel
theorem d_La_put_16 : decode b_La_put 16 = .ok (.ireturn, 1) := by decide +kernel
theorem d_La_put_17 : decode b_La_put 17 = .ok (.astore 4, 2) := by decide +kernel
theorem d_La_put_19 : decode b_La_put 19 = .ok (.iconst 2, 1) := by decide +kernel
theorem d_La_put_20 : decode b_La_put 20 = .ok (.ireturn, 1) := by decide +kernel
theorem d_La_put_21 : decode b_La_put 21 = .ok (.iconst 0, 1) := by decide +kernel
theorem d_La_put_22 : decode b_La_put 22 = .ok (.ireturn, 1) := by decide +kernel
def q_La_put : List (Nat × j_S) := [(0, j_ld 2 3 1),
  (1, j_st (f_psh (.int 0)) 2),
  (2, j_ld 2 0 3),
  (3, j_ld 0 1 4),
  (4, j_ld 0 2 5),
  (5, j_cv [(0, 51)] 2),
  (8, j_st (f_i2l) 9),
  (9, j_aj 10),
  (10, j_st f_id 21),
  (13, j_so 2 4 15),
  (15, j_st (f_psh (.int 1)) 16),
  (16, j_rt 0),
  (17, j_so 2 4 19),
  (19, j_st (f_psh (.int 2)) 20),
  (20, j_rt 0),
  (21, j_st (f_psh (.int 0)) 22),
  (22, j_rt 0)]
def i_La_put : j_I := (R_La, b_La_put, 5, false, (some .int), [(0, 10, 13, 19), (0, 10, 17, 25)])
def e_La_put : j_E := ((y_La_put, c_La_put), i_La_put, j_tab q_La_put, [(5, 0, 13), (5, 1, 17)])
theorem o_La_put (G : j_G) : j_mok G tm e_La_put := ⟨by decide +kernel, Or.inr rfl, rfl, (fun h => by cases h), j_tab_ok (i := i_La_put) (l := q_La_put) (j_all_mem ⟨r_aload_n d_La_put_0 rfl,
  r_iconst d_La_put_1 (by decide),
  r_aload_n d_La_put_2 rfl,
  r_iload_n d_La_put_3 rfl,
  r_iload_n d_La_put_4 rfl,
  r_invV (j_all_mem ⟨⟨⟨_, _, _, rfl, k_1089, k_1090, k_1091⟩, cw_LT_put, by decide, by decide +kernel⟩, trivial⟩) d_La_put_5,
  r_i2l d_La_put_8,
  r_lastore d_La_put_9,
  r_goto d_La_put_10 (by decide),
  r_astore d_La_put_13 (by decide),
  r_iconst d_La_put_15 (by decide),
  r_ireturn d_La_put_16 rfl,
  r_astore d_La_put_17 (by decide),
  r_iconst d_La_put_19 (by decide),
  r_ireturn d_La_put_20 rfl,
  r_iconst d_La_put_21 (by decide),
  r_ireturn d_La_put_22 rfl, trivial⟩), (j_all_mem ⟨r_catch (pre := []) (y := (0, 10, 13, 19)) (suf := [(0, 10, 17, 25)]) rfl rfl rfl (by decide) k_1071 k_xc0 (fun z h => by cases h), r_catch (pre := [(0, 10, 13, 19)]) (y := (0, 10, 17, 25)) (suf := []) rfl rfl rfl (by decide) k_1088 k_xc1 (j_all_mem ⟨⟨by decide, _, k_1071, by decide⟩, trivial⟩), trivial⟩), (fun h => by cases h)⟩
theorem d_La_seek_0 : decode b_La_seek 0 = .ok (.aload_n 3, 1) := by decide +kernel
theorem d_La_seek_1 : decode b_La_seek 1 = .ok (.iconst 0, 1) := by decide +kernel
theorem d_La_seek_2 : decode b_La_seek 2 = .ok (.aload_n 0, 1) := by decide +kernel
theorem d_La_seek_3 : decode b_La_seek 3 = .ok (.iload_n 1, 1) := by decide +kernel
theorem d_La_seek_4 : decode b_La_seek 4 = .ok (.iload_n 2, 1) := by decide +kernel
theorem d_La_seek_5 : decode b_La_seek 5 = .ok (.invokevirtual 42, 3) := by decide +kernel
theorem d_La_seek_8 : decode b_La_seek 8 = .ok (.i2l, 1) := by decide +kernel
theorem d_La_seek_9 : decode b_La_seek 9 = .ok (.lastore, 1) := by decide +kernel
theorem d_La_seek_10 : decode b_La_seek 10 = .ok (.goto 15, 3) := by decide +kernel
theorem d_La_seek_13 : decode b_La_seek 13 = .ok (.astore 4, 2) := by decide +kernel
theorem d_La_seek_15 : decode b_La_seek 15 = .ok (.iconst 1, 1) := by decide +kernel
theorem d_La_seek_16 : decode b_La_seek 16 = .ok (.ireturn, 1) := by decide +kernel
theorem d_La_seek_17 : decode b_La_seek 17 = .ok (.astore 4, 2) := by decide +kernel
theorem d_La_seek_19 : decode b_La_seek 19 = .ok (.iconst 2, 1) := by decide +kernel
theorem d_La_seek_20 : decode b_La_seek 20 = .ok (.ireturn, 1) := by decide +kernel
theorem d_La_seek_21 : decode b_La_seek 21 = .ok (.astore 4, 2) := by decide +kernel
theorem d_La_seek_23 : decode b_La_seek 23 = .ok (.iconst 3, 1) := by decide +kernel
theorem d_La_seek_24 : decode b_La_seek 24 = .ok (.ireturn, 1) := by decide +kernel
theorem d_La_seek_25 : decode b_La_seek 25 = .ok (.iconst 0, 1) := by decide +kernel
theorem d_La_seek_26 : decode b_La_seek 26 = .ok (.ireturn, 1) := by decide +kernel
def q_La_seek : List (Nat × j_S) := [(0, j_ld 2 3 1),
  (1, j_st (f_psh (.int 0)) 2),
  (2, j_ld 2 0 3),
  (3, j_ld 0 1 4),
  (4, j_ld 0 2 5),
  (5, j_cv [(0, 54)] 2),
  (8, j_st (f_i2l) 9),
  (9, j_aj 10),
  (10, j_st f_id 25),
  (13, j_so 2 4 15),
  (15, j_st (f_psh (.int 1)) 16),
  (16, j_rt 0),
  (17, j_so 2 4 19),
  (19, j_st (f_psh (.int 2)) 20),
  (20, j_rt 0),
  (21, j_so 2 4 23),
  (23, j_st (f_psh (.int 3)) 24),
  (24, j_rt 0),
  (25, j_st (f_psh (.int 0)) 26),
  (26, j_rt 0)]
def i_La_seek : j_I := (R_La, b_La_seek, 5, false, (some .int), [(0, 10, 13, 19), (0, 10, 17, 25), (0, 10, 21, 40)])
def e_La_seek : j_E := ((y_La_seek, c_La_seek), i_La_seek, j_tab q_La_seek, [(5, 0, 13), (5, 1, 17), (5, 3, 21)])
theorem o_La_seek (G : j_G) : j_mok G tm e_La_seek := ⟨by decide +kernel, Or.inr rfl, rfl, (fun h => by cases h), j_tab_ok (i := i_La_seek) (l := q_La_seek) (j_all_mem ⟨r_aload_n d_La_seek_0 rfl,
  r_iconst d_La_seek_1 (by decide),
  r_aload_n d_La_seek_2 rfl,
  r_iload_n d_La_seek_3 rfl,
  r_iload_n d_La_seek_4 rfl,
  r_invV (j_all_mem ⟨⟨⟨_, _, _, rfl, k_1210, k_1211, k_1212⟩, cw_LT_seek, by decide, by decide +kernel⟩, trivial⟩) d_La_seek_5,
  r_i2l d_La_seek_8,
  r_lastore d_La_seek_9,
  r_goto d_La_seek_10 (by decide),
  r_astore d_La_seek_13 (by decide),
  r_iconst d_La_seek_15 (by decide),
  r_ireturn d_La_seek_16 rfl,
  r_astore d_La_seek_17 (by decide),
  r_iconst d_La_seek_19 (by decide),
  r_ireturn d_La_seek_20 rfl,
  r_astore d_La_seek_21 (by decide),
  r_iconst d_La_seek_23 (by decide),
  r_ireturn d_La_seek_24 rfl,
  r_iconst d_La_seek_25 (by decide),
  r_ireturn d_La_seek_26 rfl, trivial⟩), (j_all_mem ⟨r_catch (pre := []) (y := (0, 10, 13, 19)) (suf := [(0, 10, 17, 25), (0, 10, 21, 40)]) rfl rfl rfl (by decide) k_1071 k_xc0 (fun z h => by cases h), r_catch (pre := [(0, 10, 13, 19)]) (y := (0, 10, 17, 25)) (suf := [(0, 10, 21, 40)]) rfl rfl rfl (by decide) k_1088 k_xc1 (j_all_mem ⟨⟨by decide, _, k_1071, by decide⟩, trivial⟩), r_catch (pre := [(0, 10, 13, 19), (0, 10, 17, 25)]) (y := (0, 10, 21, 40)) (suf := []) rfl rfl rfl (by decide) k_1174 k_xc3 (j_all_mem ⟨⟨by decide, _, k_1071, by decide⟩, ⟨by decide, _, k_1088, by decide⟩, trivial⟩), trivial⟩), (fun h => by cases h)⟩
theorem d_La_word_0 : decode b_La_word 0 = .ok (.aload_n 2, 1) := by decide +kernel
theorem d_La_word_1 : decode b_La_word 1 = .ok (.iconst 0, 1) := by decide +kernel
theorem d_La_word_2 : decode b_La_word 2 = .ok (.aload_n 0, 1) := by decide +kernel
theorem d_La_word_3 : decode b_La_word 3 = .ok (.iload_n 1, 1) := by decide +kernel
theorem d_La_word_4 : decode b_La_word 4 = .ok (.invokevirtual 49, 3) := by decide +kernel
theorem d_La_word_7 : decode b_La_word 7 = .ok (.lastore, 1) := by decide +kernel
theorem d_La_word_8 : decode b_La_word 8 = .ok (.goto 9, 3) := by decide +kernel
theorem d_La_word_11 : decode b_La_word 11 = .ok (.astore_n 3, 1) := by decide +kernel
theorem d_La_word_12 : decode b_La_word 12 = .ok (.iconst 1, 1) := by decide +kernel
theorem d_La_word_13 : decode b_La_word 13 = .ok (.ireturn, 1) := by decide +kernel
theorem d_La_word_14 : decode b_La_word 14 = .ok (.astore_n 3, 1) := by decide +kernel
theorem d_La_word_15 : decode b_La_word 15 = .ok (.iconst 2, 1) := by decide +kernel
theorem d_La_word_16 : decode b_La_word 16 = .ok (.ireturn, 1) := by decide +kernel
theorem d_La_word_17 : decode b_La_word 17 = .ok (.iconst 0, 1) := by decide +kernel
theorem d_La_word_18 : decode b_La_word 18 = .ok (.ireturn, 1) := by decide +kernel
def q_La_word : List (Nat × j_S) := [(0, j_ld 2 2 1),
  (1, j_st (f_psh (.int 0)) 2),
  (2, j_ld 2 0 3),
  (3, j_ld 0 1 4),
  (4, j_cv [(0, 56)] 1),
  (7, j_aj 8),
  (8, j_st f_id 17),
  (11, j_so 2 3 12),
  (12, j_st (f_psh (.int 1)) 13),
  (13, j_rt 0),
  (14, j_so 2 3 15),
  (15, j_st (f_psh (.int 2)) 16),
  (16, j_rt 0),
  (17, j_st (f_psh (.int 0)) 18),
  (18, j_rt 0)]
def i_La_word : j_I := (R_La, b_La_word, 4, false, (some .int), [(0, 8, 11, 40), (0, 8, 14, 13)])
def e_La_word : j_E := ((y_La_word, c_La_word), i_La_word, j_tab q_La_word, [(4, 3, 11), (4, 2, 14)])
theorem o_La_word (G : j_G) : j_mok G tm e_La_word := ⟨by decide +kernel, Or.inr rfl, rfl, (fun h => by cases h), j_tab_ok (i := i_La_word) (l := q_La_word) (j_all_mem ⟨r_aload_n d_La_word_0 rfl,
  r_iconst d_La_word_1 (by decide),
  r_aload_n d_La_word_2 rfl,
  r_iload_n d_La_word_3 rfl,
  r_invV (j_all_mem ⟨⟨⟨_, _, _, rfl, k_1233, k_1234, k_1235⟩, cw_LT_word, by decide, by decide +kernel⟩, trivial⟩) d_La_word_4,
  r_lastore d_La_word_7,
  r_goto d_La_word_8 (by decide),
  r_astore_n d_La_word_11 rfl (by decide),
  r_iconst d_La_word_12 (by decide),
  r_ireturn d_La_word_13 rfl,
  r_astore_n d_La_word_14 rfl (by decide),
  r_iconst d_La_word_15 (by decide),
  r_ireturn d_La_word_16 rfl,
  r_iconst d_La_word_17 (by decide),
  r_ireturn d_La_word_18 rfl, trivial⟩), (j_all_mem ⟨r_catch (pre := []) (y := (0, 8, 11, 40)) (suf := [(0, 8, 14, 13)]) rfl rfl rfl (by decide) k_1174 k_xc3 (fun z h => by cases h), r_catch (pre := [(0, 8, 11, 40)]) (y := (0, 8, 14, 13)) (suf := []) rfl rfl rfl (by decide) k_1044 k_xc2 (j_all_mem ⟨⟨by decide, _, k_1174, by decide⟩, trivial⟩), trivial⟩), (fun h => by cases h)⟩
