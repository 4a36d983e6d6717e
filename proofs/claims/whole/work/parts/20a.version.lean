/-! the methods of Ve: their instructions, and that each is right (written by wip/whole/gen.py) -/
theorem d_Ve_addTo_0 : decode b_Ve_addTo 0 = .ok (.lload_n 1, 1) := by decide +kernel
theorem d_Ve_addTo_1 : decode b_Ve_addTo 1 = .ok (.lstore_n 3, 1) := by decide +kernel
theorem d_Ve_addTo_2 : decode b_Ve_addTo 2 = .ok (.iconst 0, 1) := by decide +kernel
theorem d_Ve_addTo_3 : decode b_Ve_addTo 3 = .ok (.istore 5, 2) := by decide +kernel
theorem d_Ve_addTo_5 : decode b_Ve_addTo 5 = .ok (.iload 5, 2) := by decide +kernel
theorem d_Ve_addTo_7 : decode b_Ve_addTo 7 = .ok (.bipush 6, 2) := by decide +kernel
theorem d_Ve_addTo_9 : decode b_Ve_addTo 9 = .ok (.if_icmp .ge 23, 3) := by decide +kernel
theorem d_Ve_addTo_12 : decode b_Ve_addTo 12 = .ok (.lload_n 3, 1) := by decide +kernel
theorem d_Ve_addTo_13 : decode b_Ve_addTo 13 = .ok (.ldc2_w 51, 3) := by decide +kernel
theorem d_Ve_addTo_16 : decode b_Ve_addTo 16 = .ok (.lmul, 1) := by decide +kernel
theorem d_Ve_addTo_17 : decode b_Ve_addTo 17 = .ok (.aload_n 0, 1) := by decide +kernel
theorem d_Ve_addTo_18 : decode b_Ve_addTo 18 = .ok (.getfield 9, 3) := by decide +kernel
theorem d_Ve_addTo_21 : decode b_Ve_addTo 21 = .ok (.iload 5, 2) := by decide +kernel
theorem d_Ve_addTo_23 : decode b_Ve_addTo 23 = .ok (.laload, 1) := by decide +kernel
theorem d_Ve_addTo_24 : decode b_Ve_addTo 24 = .ok (.ladd, 1) := by decide +kernel
theorem d_Ve_addTo_25 : decode b_Ve_addTo 25 = .ok (.lstore_n 3, 1) := by decide +kernel
theorem d_Ve_addTo_26 : decode b_Ve_addTo 26 = .ok (.iinc 5 1, 3) := by decide +kernel
theorem d_Ve_addTo_29 : decode b_Ve_addTo 29 = .ok (.goto (-24), 3) := by decide +kernel
theorem d_Ve_addTo_32 : decode b_Ve_addTo 32 = .ok (.lload_n 3, 1) := by decide +kernel
theorem d_Ve_addTo_33 : decode b_Ve_addTo 33 = .ok (.lreturn, 1) := by decide +kernel
def q_Ve_addTo : List (Nat × j_S) := [(0, j_ld 1 1 1),
  (1, j_so 1 3 2),
  (2, j_st (f_psh (.int 0)) 3),
  (3, j_so 0 5 5),
  (5, j_ld 0 5 7),
  (7, j_st (f_psh (.int 6)) 9),
  (9, j_br (f_ic (fun x y => decide (y ≤ x))) 32 12),
  (12, j_ld 1 3 13),
  (13, j_st (f_psh (.long (31))) 16),
  (16, j_st (f_ll (fun a b => a * b)) 17),
  (17, j_ld 2 0 18),
  (18, j_gf [8] 0 21),
  (21, j_ld 0 5 23),
  (23, j_al 1 24),
  (24, j_st (f_ll (fun a b => a + b)) 25),
  (25, j_so 1 3 26),
  (26, j_ic 5 1 29),
  (29, j_st f_id 5),
  (32, j_ld 1 3 33),
  (33, j_rt 1)]
def i_Ve_addTo : j_I := (R_Ve, b_Ve_addTo, 6, false, (some .long), [])
def e_Ve_addTo : j_E := ((y_Ve_addTo, c_Ve_addTo), i_Ve_addTo, j_tab q_Ve_addTo, [])
theorem o_Ve_addTo (G : j_G) : j_mok G tm e_Ve_addTo := ⟨by decide +kernel, Or.inl ⟨rfl, rfl⟩, rfl, (fun h => by cases h), j_tab_ok (i := i_Ve_addTo) (l := q_Ve_addTo) (j_all_mem ⟨r_lload_n d_Ve_addTo_0 rfl,
  r_lstore_n d_Ve_addTo_1 rfl (by decide),
  r_iconst d_Ve_addTo_2 (by decide),
  r_istore d_Ve_addTo_3 (by decide),
  r_iload d_Ve_addTo_5,
  r_bipush d_Ve_addTo_7 (by decide),
  r_ic_ge d_Ve_addTo_9 (by decide),
  r_lload_n d_Ve_addTo_12 rfl,
  r_ldc2 k_597 d_Ve_addTo_13,
  r_lmul d_Ve_addTo_16,
  r_aload_n d_Ve_addTo_17 rfl,
  r_getfield (j_all_mem ⟨⟨_, _, _, rfl, w_Ve, by decide, ⟨_, k_113, Or.inl rfl⟩⟩, trivial⟩) d_Ve_addTo_18,
  r_iload d_Ve_addTo_21,
  r_laload d_Ve_addTo_23,
  r_ladd d_Ve_addTo_24,
  r_lstore_n d_Ve_addTo_25 rfl (by decide),
  j_ok_ic d_Ve_addTo_26 rfl (by decide) (by decide),
  r_goto d_Ve_addTo_29 (by decide),
  r_lload_n d_Ve_addTo_32 rfl,
  r_lreturn d_Ve_addTo_33 rfl, trivial⟩), (fun q h => by cases h), (fun _ => rfl)⟩
theorem d_Ve_byteAt_0 : decode b_Ve_byteAt 0 = .ok (.iload_n 1, 1) := by decide +kernel
theorem d_Ve_byteAt_1 : decode b_Ve_byteAt 1 = .ok (.ifCond .lt 9, 3) := by decide +kernel
theorem d_Ve_byteAt_4 : decode b_Ve_byteAt 4 = .ok (.iload_n 1, 1) := by decide +kernel
theorem d_Ve_byteAt_5 : decode b_Ve_byteAt 5 = .ok (.bipush 40, 2) := by decide +kernel
theorem d_Ve_byteAt_7 : decode b_Ve_byteAt 7 = .ok (.if_icmp .lt 5, 3) := by decide +kernel
theorem d_Ve_byteAt_10 : decode b_Ve_byteAt 10 = .ok (.lconst 0, 1) := by decide +kernel
theorem d_Ve_byteAt_11 : decode b_Ve_byteAt 11 = .ok (.lreturn, 1) := by decide +kernel
theorem d_Ve_byteAt_12 : decode b_Ve_byteAt 12 = .ok (.aload_n 0, 1) := by decide +kernel
theorem d_Ve_byteAt_13 : decode b_Ve_byteAt 13 = .ok (.getfield 9, 3) := by decide +kernel
theorem d_Ve_byteAt_16 : decode b_Ve_byteAt 16 = .ok (.iload_n 1, 1) := by decide +kernel
theorem d_Ve_byteAt_17 : decode b_Ve_byteAt 17 = .ok (.iconst 3, 1) := by decide +kernel
theorem d_Ve_byteAt_18 : decode b_Ve_byteAt 18 = .ok (.ishr, 1) := by decide +kernel
theorem d_Ve_byteAt_19 : decode b_Ve_byteAt 19 = .ok (.laload, 1) := by decide +kernel
theorem d_Ve_byteAt_20 : decode b_Ve_byteAt 20 = .ok (.bipush 56, 2) := by decide +kernel
theorem d_Ve_byteAt_22 : decode b_Ve_byteAt 22 = .ok (.bipush 8, 2) := by decide +kernel
theorem d_Ve_byteAt_24 : decode b_Ve_byteAt 24 = .ok (.iload_n 1, 1) := by decide +kernel
theorem d_Ve_byteAt_25 : decode b_Ve_byteAt 25 = .ok (.bipush 7, 2) := by decide +kernel
theorem d_Ve_byteAt_27 : decode b_Ve_byteAt 27 = .ok (.iand, 1) := by decide +kernel
theorem d_Ve_byteAt_28 : decode b_Ve_byteAt 28 = .ok (.imul, 1) := by decide +kernel
theorem d_Ve_byteAt_29 : decode b_Ve_byteAt 29 = .ok (.isub, 1) := by decide +kernel
theorem d_Ve_byteAt_30 : decode b_Ve_byteAt 30 = .ok (.lushr, 1) := by decide +kernel
theorem d_Ve_byteAt_31 : decode b_Ve_byteAt 31 = .ok (.ldc2_w 28, 3) := by decide +kernel
theorem d_Ve_byteAt_34 : decode b_Ve_byteAt 34 = .ok (.land, 1) := by decide +kernel
theorem d_Ve_byteAt_35 : decode b_Ve_byteAt 35 = .ok (.lreturn, 1) := by decide +kernel
def q_Ve_byteAt : List (Nat × j_S) := [(0, j_ld 0 1 1),
  (1, j_br (f_if (fun x => decide (x < 0))) 10 4),
  (4, j_ld 0 1 5),
  (5, j_st (f_psh (.int 40)) 7),
  (7, j_br (f_ic (fun x y => decide (x < y))) 12 10),
  (10, j_st (f_psh (.long 0)) 11),
  (11, j_rt 1),
  (12, j_ld 2 0 13),
  (13, j_gf [8] 0 16),
  (16, j_ld 0 1 17),
  (17, j_st (f_psh (.int 3)) 18),
  (18, j_st (f_ii (fun a b => a >>> (b &&& 31))) 19),
  (19, j_al 1 20),
  (20, j_st (f_psh (.int 56)) 22),
  (22, j_st (f_psh (.int 8)) 24),
  (24, j_ld 0 1 25),
  (25, j_st (f_psh (.int 7)) 27),
  (27, j_st (f_ii (fun a b => a &&& b)) 28),
  (28, j_st (f_ii (fun a b => a * b)) 29),
  (29, j_st (f_ii (fun a b => a - b)) 30),
  (30, j_st (f_li (fun a b => (a.toUInt64 >>> (b.toInt64.toUInt64 &&& Int64.toUInt64 63)).toInt64)) 31),
  (31, j_st (f_psh (.long (255))) 34),
  (34, j_st (f_ll (fun a b => a &&& b)) 35),
  (35, j_rt 1)]
def i_Ve_byteAt : j_I := (R_Ve, b_Ve_byteAt, 2, false, (some .long), [])
def e_Ve_byteAt : j_E := ((y_Ve_byteAt, c_Ve_byteAt), i_Ve_byteAt, j_tab q_Ve_byteAt, [])
theorem o_Ve_byteAt (G : j_G) : j_mok G tm e_Ve_byteAt := ⟨by decide +kernel, Or.inl ⟨rfl, rfl⟩, rfl, (fun h => by cases h), j_tab_ok (i := i_Ve_byteAt) (l := q_Ve_byteAt) (j_all_mem ⟨r_iload_n d_Ve_byteAt_0 rfl,
  r_if_lt d_Ve_byteAt_1 (by decide),
  r_iload_n d_Ve_byteAt_4 rfl,
  r_bipush d_Ve_byteAt_5 (by decide),
  r_ic_lt d_Ve_byteAt_7 (by decide),
  r_lconst d_Ve_byteAt_10 (by decide),
  r_lreturn d_Ve_byteAt_11 rfl,
  r_aload_n d_Ve_byteAt_12 rfl,
  r_getfield (j_all_mem ⟨⟨_, _, _, rfl, w_Ve, by decide, ⟨_, k_113, Or.inl rfl⟩⟩, trivial⟩) d_Ve_byteAt_13,
  r_iload_n d_Ve_byteAt_16 rfl,
  r_iconst d_Ve_byteAt_17 (by decide),
  r_ishr d_Ve_byteAt_18,
  r_laload d_Ve_byteAt_19,
  r_bipush d_Ve_byteAt_20 (by decide),
  r_bipush d_Ve_byteAt_22 (by decide),
  r_iload_n d_Ve_byteAt_24 rfl,
  r_bipush d_Ve_byteAt_25 (by decide),
  r_iand d_Ve_byteAt_27,
  r_imul d_Ve_byteAt_28,
  r_isub d_Ve_byteAt_29,
  r_lushr d_Ve_byteAt_30,
  r_ldc2 k_1110 d_Ve_byteAt_31,
  r_land d_Ve_byteAt_34,
  r_lreturn d_Ve_byteAt_35 rfl, trivial⟩), (fun q h => by cases h), (fun _ => rfl)⟩
theorem d_Ve_compareKey_0 : decode b_Ve_compareKey 0 = .ok (.iconst 0, 1) := by decide +kernel
theorem d_Ve_compareKey_1 : decode b_Ve_compareKey 1 = .ok (.istore_n 2, 1) := by decide +kernel
theorem d_Ve_compareKey_2 : decode b_Ve_compareKey 2 = .ok (.iload_n 2, 1) := by decide +kernel
theorem d_Ve_compareKey_3 : decode b_Ve_compareKey 3 = .ok (.iconst 5, 1) := by decide +kernel
theorem d_Ve_compareKey_4 : decode b_Ve_compareKey 4 = .ok (.if_icmp .ge 52, 3) := by decide +kernel
theorem d_Ve_compareKey_7 : decode b_Ve_compareKey 7 = .ok (.aload_n 0, 1) := by decide +kernel
theorem d_Ve_compareKey_8 : decode b_Ve_compareKey 8 = .ok (.getfield 9, 3) := by decide +kernel
theorem d_Ve_compareKey_11 : decode b_Ve_compareKey 11 = .ok (.iload_n 2, 1) := by decide +kernel
theorem d_Ve_compareKey_12 : decode b_Ve_compareKey 12 = .ok (.laload, 1) := by decide +kernel
theorem d_Ve_compareKey_13 : decode b_Ve_compareKey 13 = .ok (.ldc2_w 38, 3) := by decide +kernel
theorem d_Ve_compareKey_16 : decode b_Ve_compareKey 16 = .ok (.lxor, 1) := by decide +kernel
theorem d_Ve_compareKey_17 : decode b_Ve_compareKey 17 = .ok (.lstore_n 3, 1) := by decide +kernel
theorem d_Ve_compareKey_18 : decode b_Ve_compareKey 18 = .ok (.aload_n 1, 1) := by decide +kernel
theorem d_Ve_compareKey_19 : decode b_Ve_compareKey 19 = .ok (.getfield 9, 3) := by decide +kernel
theorem d_Ve_compareKey_22 : decode b_Ve_compareKey 22 = .ok (.iload_n 2, 1) := by decide +kernel
theorem d_Ve_compareKey_23 : decode b_Ve_compareKey 23 = .ok (.laload, 1) := by decide +kernel
theorem d_Ve_compareKey_24 : decode b_Ve_compareKey 24 = .ok (.ldc2_w 38, 3) := by decide +kernel
theorem d_Ve_compareKey_27 : decode b_Ve_compareKey 27 = .ok (.lxor, 1) := by decide +kernel
theorem d_Ve_compareKey_28 : decode b_Ve_compareKey 28 = .ok (.lstore 5, 2) := by decide +kernel
theorem d_Ve_compareKey_30 : decode b_Ve_compareKey 30 = .ok (.lload_n 3, 1) := by decide +kernel
theorem d_Ve_compareKey_31 : decode b_Ve_compareKey 31 = .ok (.lload 5, 2) := by decide +kernel
theorem d_Ve_compareKey_33 : decode b_Ve_compareKey 33 = .ok (.lcmp, 1) := by decide +kernel
theorem d_Ve_compareKey_34 : decode b_Ve_compareKey 34 = .ok (.ifCond .eq 16, 3) := by decide +kernel
theorem d_Ve_compareKey_37 : decode b_Ve_compareKey 37 = .ok (.lload_n 3, 1) := by decide +kernel
theorem d_Ve_compareKey_38 : decode b_Ve_compareKey 38 = .ok (.lload 5, 2) := by decide +kernel
theorem d_Ve_compareKey_40 : decode b_Ve_compareKey 40 = .ok (.lcmp, 1) := by decide +kernel
theorem d_Ve_compareKey_41 : decode b_Ve_compareKey 41 = .ok (.ifCond .ge 7, 3) := by decide +kernel
theorem d_Ve_compareKey_44 : decode b_Ve_compareKey 44 = .ok (.iconst (-1), 1) := by decide +kernel
theorem d_Ve_compareKey_45 : decode b_Ve_compareKey 45 = .ok (.goto 4, 3) := by decide +kernel
theorem d_Ve_compareKey_48 : decode b_Ve_compareKey 48 = .ok (.iconst 1, 1) := by decide +kernel
theorem d_Ve_compareKey_49 : decode b_Ve_compareKey 49 = .ok (.ireturn, 1) := by decide +kernel
theorem d_Ve_compareKey_50 : decode b_Ve_compareKey 50 = .ok (.iinc 2 1, 3) := by decide +kernel
theorem d_Ve_compareKey_53 : decode b_Ve_compareKey 53 = .ok (.goto (-51), 3) := by decide +kernel
theorem d_Ve_compareKey_56 : decode b_Ve_compareKey 56 = .ok (.aload_n 0, 1) := by decide +kernel
theorem d_Ve_compareKey_57 : decode b_Ve_compareKey 57 = .ok (.invokevirtual 34, 3) := by decide +kernel
theorem d_Ve_compareKey_60 : decode b_Ve_compareKey 60 = .ok (.aload_n 1, 1) := by decide +kernel
theorem d_Ve_compareKey_61 : decode b_Ve_compareKey 61 = .ok (.invokevirtual 34, 3) := by decide +kernel
theorem d_Ve_compareKey_64 : decode b_Ve_compareKey 64 = .ok (.isub, 1) := by decide +kernel
theorem d_Ve_compareKey_65 : decode b_Ve_compareKey 65 = .ok (.ireturn, 1) := by decide +kernel
def q_Ve_compareKey : List (Nat × j_S) := [(0, j_st (f_psh (.int 0)) 1),
  (1, j_so 0 2 2),
  (2, j_ld 0 2 3),
  (3, j_st (f_psh (.int 5)) 4),
  (4, j_br (f_ic (fun x y => decide (y ≤ x))) 56 7),
  (7, j_ld 2 0 8),
  (8, j_gf [8] 0 11),
  (11, j_ld 0 2 12),
  (12, j_al 1 13),
  (13, j_st (f_psh (.long (-9223372036854775808))) 16),
  (16, j_st (f_ll (fun a b => a ^^^ b)) 17),
  (17, j_so 1 3 18),
  (18, j_ld 2 1 19),
  (19, j_gf [8] 0 22),
  (22, j_ld 0 2 23),
  (23, j_al 1 24),
  (24, j_st (f_psh (.long (-9223372036854775808))) 27),
  (27, j_st (f_ll (fun a b => a ^^^ b)) 28),
  (28, j_so 1 5 30),
  (30, j_ld 1 3 31),
  (31, j_ld 1 5 33),
  (33, j_st (f_cmp) 34),
  (34, j_br (f_if (fun x => decide (x = 0))) 50 37),
  (37, j_ld 1 3 38),
  (38, j_ld 1 5 40),
  (40, j_st (f_cmp) 41),
  (41, j_br (f_if (fun x => decide (0 ≤ x))) 48 44),
  (44, j_st (f_psh (.int (-1))) 45),
  (45, j_st f_id 49),
  (48, j_st (f_psh (.int 1)) 49),
  (49, j_rt 0),
  (50, j_ic 2 1 53),
  (53, j_st f_id 2),
  (56, j_ld 2 0 57),
  (57, j_cv [(8, 136)] 0),
  (60, j_ld 2 1 61),
  (61, j_cv [(8, 136)] 0),
  (64, j_st (f_ii (fun a b => a - b)) 65),
  (65, j_rt 0)]
def i_Ve_compareKey : j_I := (R_Ve, b_Ve_compareKey, 7, false, (some .int), [])
def e_Ve_compareKey : j_E := ((y_Ve_compareKey, c_Ve_compareKey), i_Ve_compareKey, j_tab q_Ve_compareKey, [])
theorem o_Ve_compareKey (G : j_G) : j_mok G tm e_Ve_compareKey := ⟨by decide +kernel, Or.inl ⟨rfl, rfl⟩, rfl, (fun h => by cases h), j_tab_ok (i := i_Ve_compareKey) (l := q_Ve_compareKey) (j_all_mem ⟨r_iconst d_Ve_compareKey_0 (by decide),
  r_istore_n d_Ve_compareKey_1 rfl (by decide),
  r_iload_n d_Ve_compareKey_2 rfl,
  r_iconst d_Ve_compareKey_3 (by decide),
  r_ic_ge d_Ve_compareKey_4 (by decide),
  r_aload_n d_Ve_compareKey_7 rfl,
  r_getfield (j_all_mem ⟨⟨_, _, _, rfl, w_Ve, by decide, ⟨_, k_113, Or.inl rfl⟩⟩, trivial⟩) d_Ve_compareKey_8,
  r_iload_n d_Ve_compareKey_11 rfl,
  r_laload d_Ve_compareKey_12,
  r_ldc2 k_391 d_Ve_compareKey_13,
  r_lxor d_Ve_compareKey_16,
  r_lstore_n d_Ve_compareKey_17 rfl (by decide),
  r_aload_n d_Ve_compareKey_18 rfl,
  r_getfield (j_all_mem ⟨⟨_, _, _, rfl, w_Ve, by decide, ⟨_, k_113, Or.inl rfl⟩⟩, trivial⟩) d_Ve_compareKey_19,
  r_iload_n d_Ve_compareKey_22 rfl,
  r_laload d_Ve_compareKey_23,
  r_ldc2 k_391 d_Ve_compareKey_24,
  r_lxor d_Ve_compareKey_27,
  r_lstore d_Ve_compareKey_28 (by decide),
  r_lload_n d_Ve_compareKey_30 rfl,
  r_lload d_Ve_compareKey_31,
  r_lcmp d_Ve_compareKey_33,
  r_if_eq d_Ve_compareKey_34 (by decide),
  r_lload_n d_Ve_compareKey_37 rfl,
  r_lload d_Ve_compareKey_38,
  r_lcmp d_Ve_compareKey_40,
  r_if_ge d_Ve_compareKey_41 (by decide),
  r_iconst d_Ve_compareKey_44 (by decide),
  r_goto d_Ve_compareKey_45 (by decide),
  r_iconst d_Ve_compareKey_48 (by decide),
  r_ireturn d_Ve_compareKey_49 rfl,
  j_ok_ic d_Ve_compareKey_50 rfl (by decide) (by decide),
  r_goto d_Ve_compareKey_53 (by decide),
  r_aload_n d_Ve_compareKey_56 rfl,
  r_invV (j_all_mem ⟨⟨⟨_, _, _, rfl, k_318, k_319, k_320⟩, cw_Ve_length, by decide, by decide +kernel⟩, trivial⟩) d_Ve_compareKey_57,
  r_aload_n d_Ve_compareKey_60 rfl,
  r_invV (j_all_mem ⟨⟨⟨_, _, _, rfl, k_318, k_319, k_320⟩, cw_Ve_length, by decide, by decide +kernel⟩, trivial⟩) d_Ve_compareKey_61,
  r_isub d_Ve_compareKey_64,
  r_ireturn d_Ve_compareKey_65 rfl, trivial⟩), (fun q h => by cases h), (fun _ => rfl)⟩
theorem d_Ve_copy_0 : decode b_Ve_copy 0 = .ok (.aload_n 1, 1) := by decide +kernel
theorem d_Ve_copy_1 : decode b_Ve_copy 1 = .ok (.getfield 9, 3) := by decide +kernel
theorem d_Ve_copy_4 : decode b_Ve_copy 4 = .ok (.iconst 0, 1) := by decide +kernel
theorem d_Ve_copy_5 : decode b_Ve_copy 5 = .ok (.aload_n 0, 1) := by decide +kernel
theorem d_Ve_copy_6 : decode b_Ve_copy 6 = .ok (.getfield 9, 3) := by decide +kernel
theorem d_Ve_copy_9 : decode b_Ve_copy 9 = .ok (.iconst 0, 1) := by decide +kernel
theorem d_Ve_copy_10 : decode b_Ve_copy 10 = .ok (.bipush 6, 2) := by decide +kernel
theorem d_Ve_copy_12 : decode b_Ve_copy 12 = .ok (.invokestatic 16, 3) := by decide +kernel
theorem d_Ve_copy_15 : decode b_Ve_copy 15 = .ok (.return_, 1) := by decide +kernel
def q_Ve_copy : List (Nat × j_S) := [(0, j_ld 2 1 1),
  (1, j_gf [8] 0 4),
  (4, j_st (f_psh (.int 0)) 5),
  (5, j_ld 2 0 6),
  (6, j_gf [8] 0 9),
  (9, j_st (f_psh (.int 0)) 10),
  (10, j_st (f_psh (.int 6)) 12),
  (12, j_cpl 15),
  (15, j_rv)]
def i_Ve_copy : j_I := (R_Ve, b_Ve_copy, 2, false, none, [])
def e_Ve_copy : j_E := ((y_Ve_copy, c_Ve_copy), i_Ve_copy, j_tab q_Ve_copy, [])
theorem o_Ve_copy (G : j_G) : j_mok G tm e_Ve_copy := ⟨by decide +kernel, Or.inl ⟨rfl, rfl⟩, rfl, (fun h => by cases h), j_tab_ok (i := i_Ve_copy) (l := q_Ve_copy) (j_all_mem ⟨r_aload_n d_Ve_copy_0 rfl,
  r_getfield (j_all_mem ⟨⟨_, _, _, rfl, w_Ve, by decide, ⟨_, k_113, Or.inl rfl⟩⟩, trivial⟩) d_Ve_copy_1,
  r_iconst d_Ve_copy_4 (by decide),
  r_aload_n d_Ve_copy_5 rfl,
  r_getfield (j_all_mem ⟨⟨_, _, _, rfl, w_Ve, by decide, ⟨_, k_113, Or.inl rfl⟩⟩, trivial⟩) d_Ve_copy_6,
  r_iconst d_Ve_copy_9 (by decide),
  r_bipush d_Ve_copy_10 (by decide),
  r_copyl ⟨k_439, k_305, k_304, k_22⟩ d_Ve_copy_12,
  r_return d_Ve_copy_15 rfl, trivial⟩), (fun q h => by cases h), (fun _ => rfl)⟩
theorem d_Ve_describe_0 : decode b_Ve_describe 0 = .ok (.aload_n 0, 1) := by decide +kernel
theorem d_Ve_describe_1 : decode b_Ve_describe 1 = .ok (.getfield 9, 3) := by decide +kernel
theorem d_Ve_describe_4 : decode b_Ve_describe 4 = .ok (.iconst 5, 1) := by decide +kernel
theorem d_Ve_describe_5 : decode b_Ve_describe 5 = .ok (.aload_n 0, 1) := by decide +kernel
theorem d_Ve_describe_6 : decode b_Ve_describe 6 = .ok (.invokevirtual 34, 3) := by decide +kernel
theorem d_Ve_describe_9 : decode b_Ve_describe 9 = .ok (.i2l, 1) := by decide +kernel
theorem d_Ve_describe_10 : decode b_Ve_describe 10 = .ok (.bipush 52, 2) := by decide +kernel
theorem d_Ve_describe_12 : decode b_Ve_describe 12 = .ok (.lshl, 1) := by decide +kernel
theorem d_Ve_describe_13 : decode b_Ve_describe 13 = .ok (.iload_n 1, 1) := by decide +kernel
theorem d_Ve_describe_14 : decode b_Ve_describe 14 = .ok (.i2l, 1) := by decide +kernel
theorem d_Ve_describe_15 : decode b_Ve_describe 15 = .ok (.bipush 42, 2) := by decide +kernel
theorem d_Ve_describe_17 : decode b_Ve_describe 17 = .ok (.lshl, 1) := by decide +kernel
theorem d_Ve_describe_18 : decode b_Ve_describe 18 = .ok (.lor, 1) := by decide +kernel
theorem d_Ve_describe_19 : decode b_Ve_describe 19 = .ok (.iload_n 2, 1) := by decide +kernel
theorem d_Ve_describe_20 : decode b_Ve_describe 20 = .ok (.ifCond .eq 7, 3) := by decide +kernel
theorem d_Ve_describe_23 : decode b_Ve_describe 23 = .ok (.lconst 1, 1) := by decide +kernel
theorem d_Ve_describe_24 : decode b_Ve_describe 24 = .ok (.goto 4, 3) := by decide +kernel
theorem d_Ve_describe_27 : decode b_Ve_describe 27 = .ok (.lconst 0, 1) := by decide +kernel
theorem d_Ve_describe_28 : decode b_Ve_describe 28 = .ok (.bipush 41, 2) := by decide +kernel
theorem d_Ve_describe_30 : decode b_Ve_describe 30 = .ok (.lshl, 1) := by decide +kernel
theorem d_Ve_describe_31 : decode b_Ve_describe 31 = .ok (.lor, 1) := by decide +kernel
theorem d_Ve_describe_32 : decode b_Ve_describe 32 = .ok (.iload_n 3, 1) := by decide +kernel
theorem d_Ve_describe_33 : decode b_Ve_describe 33 = .ok (.i2l, 1) := by decide +kernel
theorem d_Ve_describe_34 : decode b_Ve_describe 34 = .ok (.bipush 31, 2) := by decide +kernel
theorem d_Ve_describe_36 : decode b_Ve_describe 36 = .ok (.lshl, 1) := by decide +kernel
theorem d_Ve_describe_37 : decode b_Ve_describe 37 = .ok (.lor, 1) := by decide +kernel
theorem d_Ve_describe_38 : decode b_Ve_describe 38 = .ok (.iload 4, 2) := by decide +kernel
theorem d_Ve_describe_40 : decode b_Ve_describe 40 = .ok (.i2l, 1) := by decide +kernel
theorem d_Ve_describe_41 : decode b_Ve_describe 41 = .ok (.lor, 1) := by decide +kernel
theorem d_Ve_describe_42 : decode b_Ve_describe 42 = .ok (.lastore, 1) := by decide +kernel
theorem d_Ve_describe_43 : decode b_Ve_describe 43 = .ok (.return_, 1) := by decide +kernel
def q_Ve_describe : List (Nat × j_S) := [(0, j_ld 2 0 1),
  (1, j_gf [8] 0 4),
  (4, j_st (f_psh (.int 5)) 5),
  (5, j_ld 2 0 6),
  (6, j_cv [(8, 136)] 0),
  (9, j_st (f_i2l) 10),
  (10, j_st (f_psh (.int 52)) 12),
  (12, j_st (f_li (fun a b => a <<< (b.toInt64 &&& 63))) 13),
  (13, j_ld 0 1 14),
  (14, j_st (f_i2l) 15),
  (15, j_st (f_psh (.int 42)) 17),
  (17, j_st (f_li (fun a b => a <<< (b.toInt64 &&& 63))) 18),
  (18, j_st (f_ll (fun a b => a ||| b)) 19),
  (19, j_ld 0 2 20),
  (20, j_br (f_if (fun x => decide (x = 0))) 27 23),
  (23, j_st (f_psh (.long 1)) 24),
  (24, j_st f_id 28),
  (27, j_st (f_psh (.long 0)) 28),
  (28, j_st (f_psh (.int 41)) 30),
  (30, j_st (f_li (fun a b => a <<< (b.toInt64 &&& 63))) 31),
  (31, j_st (f_ll (fun a b => a ||| b)) 32),
  (32, j_ld 0 3 33),
  (33, j_st (f_i2l) 34),
  (34, j_st (f_psh (.int 31)) 36),
  (36, j_st (f_li (fun a b => a <<< (b.toInt64 &&& 63))) 37),
  (37, j_st (f_ll (fun a b => a ||| b)) 38),
  (38, j_ld 0 4 40),
  (40, j_st (f_i2l) 41),
  (41, j_st (f_ll (fun a b => a ||| b)) 42),
  (42, j_aj 43),
  (43, j_rv)]
def i_Ve_describe : j_I := (R_Ve, b_Ve_describe, 5, false, none, [])
def e_Ve_describe : j_E := ((y_Ve_describe, c_Ve_describe), i_Ve_describe, j_tab q_Ve_describe, [])
theorem o_Ve_describe (G : j_G) : j_mok G tm e_Ve_describe := ⟨by decide +kernel, Or.inl ⟨rfl, rfl⟩, rfl, (fun h => by cases h), j_tab_ok (i := i_Ve_describe) (l := q_Ve_describe) (j_all_mem ⟨r_aload_n d_Ve_describe_0 rfl,
  r_getfield (j_all_mem ⟨⟨_, _, _, rfl, w_Ve, by decide, ⟨_, k_113, Or.inl rfl⟩⟩, trivial⟩) d_Ve_describe_1,
  r_iconst d_Ve_describe_4 (by decide),
  r_aload_n d_Ve_describe_5 rfl,
  r_invV (j_all_mem ⟨⟨⟨_, _, _, rfl, k_318, k_319, k_320⟩, cw_Ve_length, by decide, by decide +kernel⟩, trivial⟩) d_Ve_describe_6,
  r_i2l d_Ve_describe_9,
  r_bipush d_Ve_describe_10 (by decide),
  r_lshl d_Ve_describe_12,
  r_iload_n d_Ve_describe_13 rfl,
  r_i2l d_Ve_describe_14,
  r_bipush d_Ve_describe_15 (by decide),
  r_lshl d_Ve_describe_17,
  r_lor d_Ve_describe_18,
  r_iload_n d_Ve_describe_19 rfl,
  r_if_eq d_Ve_describe_20 (by decide),
  r_lconst d_Ve_describe_23 (by decide),
  r_goto d_Ve_describe_24 (by decide),
  r_lconst d_Ve_describe_27 (by decide),
  r_bipush d_Ve_describe_28 (by decide),
  r_lshl d_Ve_describe_30,
  r_lor d_Ve_describe_31,
  r_iload_n d_Ve_describe_32 rfl,
  r_i2l d_Ve_describe_33,
  r_bipush d_Ve_describe_34 (by decide),
  r_lshl d_Ve_describe_36,
  r_lor d_Ve_describe_37,
  r_iload d_Ve_describe_38,
  r_i2l d_Ve_describe_40,
  r_lor d_Ve_describe_41,
  r_lastore d_Ve_describe_42,
  r_return d_Ve_describe_43 rfl, trivial⟩), (fun q h => by cases h), (fun _ => rfl)⟩
theorem d_Ve_eightBytes_0 : decode b_Ve_eightBytes 0 = .ok (.lconst 0, 1) := by decide +kernel
theorem d_Ve_eightBytes_1 : decode b_Ve_eightBytes 1 = .ok (.lstore_n 2, 1) := by decide +kernel
theorem d_Ve_eightBytes_2 : decode b_Ve_eightBytes 2 = .ok (.iload_n 1, 1) := by decide +kernel
theorem d_Ve_eightBytes_3 : decode b_Ve_eightBytes 3 = .ok (.istore 4, 2) := by decide +kernel
theorem d_Ve_eightBytes_5 : decode b_Ve_eightBytes 5 = .ok (.iload 4, 2) := by decide +kernel
theorem d_Ve_eightBytes_7 : decode b_Ve_eightBytes 7 = .ok (.iload_n 1, 1) := by decide +kernel
theorem d_Ve_eightBytes_8 : decode b_Ve_eightBytes 8 = .ok (.bipush 8, 2) := by decide +kernel
theorem d_Ve_eightBytes_10 : decode b_Ve_eightBytes 10 = .ok (.iadd, 1) := by decide +kernel
theorem d_Ve_eightBytes_11 : decode b_Ve_eightBytes 11 = .ok (.if_icmp .ge 21, 3) := by decide +kernel
theorem d_Ve_eightBytes_14 : decode b_Ve_eightBytes 14 = .ok (.lload_n 2, 1) := by decide +kernel
theorem d_Ve_eightBytes_15 : decode b_Ve_eightBytes 15 = .ok (.bipush 8, 2) := by decide +kernel
theorem d_Ve_eightBytes_17 : decode b_Ve_eightBytes 17 = .ok (.lshl, 1) := by decide +kernel
theorem d_Ve_eightBytes_18 : decode b_Ve_eightBytes 18 = .ok (.aload_n 0, 1) := by decide +kernel
theorem d_Ve_eightBytes_19 : decode b_Ve_eightBytes 19 = .ok (.iload 4, 2) := by decide +kernel
theorem d_Ve_eightBytes_21 : decode b_Ve_eightBytes 21 = .ok (.invokevirtual 47, 3) := by decide +kernel
theorem d_Ve_eightBytes_24 : decode b_Ve_eightBytes 24 = .ok (.lor, 1) := by decide +kernel
theorem d_Ve_eightBytes_25 : decode b_Ve_eightBytes 25 = .ok (.lstore_n 2, 1) := by decide +kernel
theorem d_Ve_eightBytes_26 : decode b_Ve_eightBytes 26 = .ok (.iinc 4 1, 3) := by decide +kernel
theorem d_Ve_eightBytes_29 : decode b_Ve_eightBytes 29 = .ok (.goto (-24), 3) := by decide +kernel
theorem d_Ve_eightBytes_32 : decode b_Ve_eightBytes 32 = .ok (.lload_n 2, 1) := by decide +kernel
theorem d_Ve_eightBytes_33 : decode b_Ve_eightBytes 33 = .ok (.lreturn, 1) := by decide +kernel
def q_Ve_eightBytes : List (Nat × j_S) := [(0, j_st (f_psh (.long 0)) 1),
  (1, j_so 1 2 2),
  (2, j_ld 0 1 3),
  (3, j_so 0 4 5),
  (5, j_ld 0 4 7),
  (7, j_ld 0 1 8),
  (8, j_st (f_psh (.int 8)) 10),
  (10, j_st (f_ii (fun a b => a + b)) 11),
  (11, j_br (f_ic (fun x y => decide (y ≤ x))) 32 14),
  (14, j_ld 1 2 15),
  (15, j_st (f_psh (.int 8)) 17),
  (17, j_st (f_li (fun a b => a <<< (b.toInt64 &&& 63))) 18),
  (18, j_ld 2 0 19),
  (19, j_ld 0 4 21),
  (21, j_cv [(8, 128)] 1),
  (24, j_st (f_ll (fun a b => a ||| b)) 25),
  (25, j_so 1 2 26),
  (26, j_ic 4 1 29),
  (29, j_st f_id 5),
  (32, j_ld 1 2 33),
  (33, j_rt 1)]
def i_Ve_eightBytes : j_I := (R_Ve, b_Ve_eightBytes, 5, false, (some .long), [])
def e_Ve_eightBytes : j_E := ((y_Ve_eightBytes, c_Ve_eightBytes), i_Ve_eightBytes, j_tab q_Ve_eightBytes, [])
theorem o_Ve_eightBytes (G : j_G) : j_mok G tm e_Ve_eightBytes := ⟨by decide +kernel, Or.inl ⟨rfl, rfl⟩, rfl, (fun h => by cases h), j_tab_ok (i := i_Ve_eightBytes) (l := q_Ve_eightBytes) (j_all_mem ⟨r_lconst d_Ve_eightBytes_0 (by decide),
  r_lstore_n d_Ve_eightBytes_1 rfl (by decide),
  r_iload_n d_Ve_eightBytes_2 rfl,
  r_istore d_Ve_eightBytes_3 (by decide),
  r_iload d_Ve_eightBytes_5,
  r_iload_n d_Ve_eightBytes_7 rfl,
  r_bipush d_Ve_eightBytes_8 (by decide),
  r_iadd d_Ve_eightBytes_10,
  r_ic_ge d_Ve_eightBytes_11 (by decide),
  r_lload_n d_Ve_eightBytes_14 rfl,
  r_bipush d_Ve_eightBytes_15 (by decide),
  r_lshl d_Ve_eightBytes_17,
  r_aload_n d_Ve_eightBytes_18 rfl,
  r_iload d_Ve_eightBytes_19,
  r_invV (j_all_mem ⟨⟨⟨_, _, _, rfl, k_1241, k_1243, kp_Ve_byteAt⟩, cw_Ve_byteAt, by decide, by decide +kernel⟩, trivial⟩) d_Ve_eightBytes_21,
  r_lor d_Ve_eightBytes_24,
  r_lstore_n d_Ve_eightBytes_25 rfl (by decide),
  j_ok_ic d_Ve_eightBytes_26 rfl (by decide) (by decide),
  r_goto d_Ve_eightBytes_29 (by decide),
  r_lload_n d_Ve_eightBytes_32 rfl,
  r_lreturn d_Ve_eightBytes_33 rfl, trivial⟩), (fun q h => by cases h), (fun _ => rfl)⟩
theorem d_Ve_init_0 : decode b_Ve_init 0 = .ok (.aload_n 0, 1) := by decide +kernel
theorem d_Ve_init_1 : decode b_Ve_init 1 = .ok (.invokespecial 3, 3) := by decide +kernel
theorem d_Ve_init_4 : decode b_Ve_init 4 = .ok (.aload_n 0, 1) := by decide +kernel
theorem d_Ve_init_5 : decode b_Ve_init 5 = .ok (.bipush 6, 2) := by decide +kernel
theorem d_Ve_init_7 : decode b_Ve_init 7 = .ok (.newarray .long, 2) := by decide +kernel
theorem d_Ve_init_9 : decode b_Ve_init 9 = .ok (.putfield 9, 3) := by decide +kernel
theorem d_Ve_init_12 : decode b_Ve_init 12 = .ok (.return_, 1) := by decide +kernel
def q_Ve_init : List (Nat × j_S) := [(0, j_ld 2 0 1),
  (1, j_oi 4),
  (4, j_ld 2 0 5),
  (5, j_st (f_psh (.int 6)) 7),
  (7, j_na 1 9),
  (9, j_pf [8] 0 2 12),
  (12, j_rv)]
def i_Ve_init : j_I := (R_Ve, b_Ve_init, 1, true, none, [])
def e_Ve_init : j_E := ((y_Ve_init, c_Ve_init), i_Ve_init, j_tab q_Ve_init, [])
theorem o_Ve_init (G : j_G) : j_mok G tm e_Ve_init := ⟨by decide +kernel, Or.inl ⟨rfl, rfl⟩, rfl, (fun _ => rfl), j_tab_ok (i := i_Ve_init) (l := q_Ve_init) (j_all_mem ⟨r_aload_n d_Ve_init_0 rfl,
  r_objInit k_112 k_oi k_oc d_Ve_init_1,
  r_aload_n d_Ve_init_4 rfl,
  r_bipush d_Ve_init_5 (by decide),
  r_newarray rfl rfl k_117 (by decide) (fun _ => rfl) (fun U cA h1 h2 => Option.some.inj (h2.symm.trans h1)) d_Ve_init_7,
  r_putfield (fin := true) (j_all_mem ⟨⟨_, _, _, t_Ve, _, rfl, w_Ve, t_Ve_ok, n_Ve, by decide, rfl, t_Ve_ok 0 (by decide), Or.inr (Or.inr (Or.inl ⟨rfl, by first | exact Or.inl ⟨_, rfl⟩ | exact Or.inr ⟨_, rfl⟩⟩)), ⟨_, k_113, Or.inl rfl⟩, (fun _ => rfl)⟩, trivial⟩) (fun _ => rfl) d_Ve_init_9,
  r_return d_Ve_init_12 rfl, trivial⟩), (fun q h => by cases h), (fun _ => rfl)⟩
theorem d_Ve_isBefore_0 : decode b_Ve_isBefore 0 = .ok (.aload_n 0, 1) := by decide +kernel
theorem d_Ve_isBefore_1 : decode b_Ve_isBefore 1 = .ok (.aload_n 1, 1) := by decide +kernel
theorem d_Ve_isBefore_2 : decode b_Ve_isBefore 2 = .ok (.invokevirtual 40, 3) := by decide +kernel
theorem d_Ve_isBefore_5 : decode b_Ve_isBefore 5 = .ok (.istore_n 2, 1) := by decide +kernel
theorem d_Ve_isBefore_6 : decode b_Ve_isBefore 6 = .ok (.iload_n 2, 1) := by decide +kernel
theorem d_Ve_isBefore_7 : decode b_Ve_isBefore 7 = .ok (.ifCond .lt 18, 3) := by decide +kernel
theorem d_Ve_isBefore_10 : decode b_Ve_isBefore 10 = .ok (.iload_n 2, 1) := by decide +kernel
theorem d_Ve_isBefore_11 : decode b_Ve_isBefore 11 = .ok (.ifCond .ne 18, 3) := by decide +kernel
theorem d_Ve_isBefore_14 : decode b_Ve_isBefore 14 = .ok (.aload_n 0, 1) := by decide +kernel
theorem d_Ve_isBefore_15 : decode b_Ve_isBefore 15 = .ok (.invokevirtual 44, 3) := by decide +kernel
theorem d_Ve_isBefore_18 : decode b_Ve_isBefore 18 = .ok (.aload_n 1, 1) := by decide +kernel
theorem d_Ve_isBefore_19 : decode b_Ve_isBefore 19 = .ok (.invokevirtual 44, 3) := by decide +kernel
theorem d_Ve_isBefore_22 : decode b_Ve_isBefore 22 = .ok (.if_icmp .ge 7, 3) := by decide +kernel
theorem d_Ve_isBefore_25 : decode b_Ve_isBefore 25 = .ok (.iconst 1, 1) := by decide +kernel
theorem d_Ve_isBefore_26 : decode b_Ve_isBefore 26 = .ok (.goto 4, 3) := by decide +kernel
theorem d_Ve_isBefore_29 : decode b_Ve_isBefore 29 = .ok (.iconst 0, 1) := by decide +kernel
theorem d_Ve_isBefore_30 : decode b_Ve_isBefore 30 = .ok (.ireturn, 1) := by decide +kernel
def q_Ve_isBefore : List (Nat × j_S) := [(0, j_ld 2 0 1),
  (1, j_ld 2 1 2),
  (2, j_cv [(8, 129)] 1),
  (5, j_so 0 2 6),
  (6, j_ld 0 2 7),
  (7, j_br (f_if (fun x => decide (x < 0))) 25 10),
  (10, j_ld 0 2 11),
  (11, j_br (f_if (fun x => decide (¬ x = 0))) 29 14),
  (14, j_ld 2 0 15),
  (15, j_cv [(8, 137)] 0),
  (18, j_ld 2 1 19),
  (19, j_cv [(8, 137)] 0),
  (22, j_br (f_ic (fun x y => decide (y ≤ x))) 29 25),
  (25, j_st (f_psh (.int 1)) 26),
  (26, j_st f_id 30),
  (29, j_st (f_psh (.int 0)) 30),
  (30, j_rt 3)]
def i_Ve_isBefore : j_I := (R_Ve, b_Ve_isBefore, 3, false, (some .boolean), [])
def e_Ve_isBefore : j_E := ((y_Ve_isBefore, c_Ve_isBefore), i_Ve_isBefore, j_tab q_Ve_isBefore, [])
theorem o_Ve_isBefore (G : j_G) : j_mok G tm e_Ve_isBefore := ⟨by decide +kernel, Or.inl ⟨rfl, rfl⟩, rfl, (fun h => by cases h), j_tab_ok (i := i_Ve_isBefore) (l := q_Ve_isBefore) (j_all_mem ⟨r_aload_n d_Ve_isBefore_0 rfl,
  r_aload_n d_Ve_isBefore_1 rfl,
  r_invV (j_all_mem ⟨⟨⟨_, _, _, rfl, k_387, k_388, k_389⟩, cw_Ve_compareKey, by decide, by decide +kernel⟩, trivial⟩) d_Ve_isBefore_2,
  r_istore_n d_Ve_isBefore_5 rfl (by decide),
  r_iload_n d_Ve_isBefore_6 rfl,
  r_if_lt d_Ve_isBefore_7 (by decide),
  r_iload_n d_Ve_isBefore_10 rfl,
  r_if_ne d_Ve_isBefore_11 (by decide),
  r_aload_n d_Ve_isBefore_14 rfl,
  r_invV (j_all_mem ⟨⟨⟨_, _, _, rfl, k_392, k_393, k_394⟩, cw_Ve_moment, by decide, by decide +kernel⟩, trivial⟩) d_Ve_isBefore_15,
  r_aload_n d_Ve_isBefore_18 rfl,
  r_invV (j_all_mem ⟨⟨⟨_, _, _, rfl, k_392, k_393, k_394⟩, cw_Ve_moment, by decide, by decide +kernel⟩, trivial⟩) d_Ve_isBefore_19,
  r_ic_ge d_Ve_isBefore_22 (by decide),
  r_iconst d_Ve_isBefore_25 (by decide),
  r_goto d_Ve_isBefore_26 (by decide),
  r_iconst d_Ve_isBefore_29 (by decide),
  r_zreturn d_Ve_isBefore_30 rfl, trivial⟩), (fun q h => by cases h), (fun _ => rfl)⟩
theorem d_Ve_isThere_0 : decode b_Ve_isThere 0 = .ok (.aload_n 0, 1) := by decide +kernel
theorem d_Ve_isThere_1 : decode b_Ve_isThere 1 = .ok (.getfield 9, 3) := by decide +kernel
theorem d_Ve_isThere_4 : decode b_Ve_isThere 4 = .ok (.iconst 5, 1) := by decide +kernel
theorem d_Ve_isThere_5 : decode b_Ve_isThere 5 = .ok (.laload, 1) := by decide +kernel
theorem d_Ve_isThere_6 : decode b_Ve_isThere 6 = .ok (.bipush 41, 2) := by decide +kernel
theorem d_Ve_isThere_8 : decode b_Ve_isThere 8 = .ok (.lushr, 1) := by decide +kernel
theorem d_Ve_isThere_9 : decode b_Ve_isThere 9 = .ok (.lconst 1, 1) := by decide +kernel
theorem d_Ve_isThere_10 : decode b_Ve_isThere 10 = .ok (.land, 1) := by decide +kernel
theorem d_Ve_isThere_11 : decode b_Ve_isThere 11 = .ok (.lconst 0, 1) := by decide +kernel
theorem d_Ve_isThere_12 : decode b_Ve_isThere 12 = .ok (.lcmp, 1) := by decide +kernel
theorem d_Ve_isThere_13 : decode b_Ve_isThere 13 = .ok (.ifCond .eq 7, 3) := by decide +kernel
theorem d_Ve_isThere_16 : decode b_Ve_isThere 16 = .ok (.iconst 1, 1) := by decide +kernel
theorem d_Ve_isThere_17 : decode b_Ve_isThere 17 = .ok (.goto 4, 3) := by decide +kernel
theorem d_Ve_isThere_20 : decode b_Ve_isThere 20 = .ok (.iconst 0, 1) := by decide +kernel
theorem d_Ve_isThere_21 : decode b_Ve_isThere 21 = .ok (.ireturn, 1) := by decide +kernel
def q_Ve_isThere : List (Nat × j_S) := [(0, j_ld 2 0 1),
  (1, j_gf [8] 0 4),
  (4, j_st (f_psh (.int 5)) 5),
  (5, j_al 1 6),
  (6, j_st (f_psh (.int 41)) 8),
  (8, j_st (f_li (fun a b => (a.toUInt64 >>> (b.toInt64.toUInt64 &&& Int64.toUInt64 63)).toInt64)) 9),
  (9, j_st (f_psh (.long 1)) 10),
  (10, j_st (f_ll (fun a b => a &&& b)) 11),
  (11, j_st (f_psh (.long 0)) 12),
  (12, j_st (f_cmp) 13),
  (13, j_br (f_if (fun x => decide (x = 0))) 20 16),
  (16, j_st (f_psh (.int 1)) 17),
  (17, j_st f_id 21),
  (20, j_st (f_psh (.int 0)) 21),
  (21, j_rt 3)]
def i_Ve_isThere : j_I := (R_Ve, b_Ve_isThere, 1, false, (some .boolean), [])
def e_Ve_isThere : j_E := ((y_Ve_isThere, c_Ve_isThere), i_Ve_isThere, j_tab q_Ve_isThere, [])
theorem o_Ve_isThere (G : j_G) : j_mok G tm e_Ve_isThere := ⟨by decide +kernel, Or.inl ⟨rfl, rfl⟩, rfl, (fun h => by cases h), j_tab_ok (i := i_Ve_isThere) (l := q_Ve_isThere) (j_all_mem ⟨r_aload_n d_Ve_isThere_0 rfl,
  r_getfield (j_all_mem ⟨⟨_, _, _, rfl, w_Ve, by decide, ⟨_, k_113, Or.inl rfl⟩⟩, trivial⟩) d_Ve_isThere_1,
  r_iconst d_Ve_isThere_4 (by decide),
  r_laload d_Ve_isThere_5,
  r_bipush d_Ve_isThere_6 (by decide),
  r_lushr d_Ve_isThere_8,
  r_lconst d_Ve_isThere_9 (by decide),
  r_land d_Ve_isThere_10,
  r_lconst d_Ve_isThere_11 (by decide),
  r_lcmp d_Ve_isThere_12,
  r_if_eq d_Ve_isThere_13 (by decide),
  r_iconst d_Ve_isThere_16 (by decide),
  r_goto d_Ve_isThere_17 (by decide),
  r_iconst d_Ve_isThere_20 (by decide),
  r_zreturn d_Ve_isThere_21 rfl, trivial⟩), (fun q h => by cases h), (fun _ => rfl)⟩
theorem d_Ve_length_0 : decode b_Ve_length 0 = .ok (.aload_n 0, 1) := by decide +kernel
theorem d_Ve_length_1 : decode b_Ve_length 1 = .ok (.getfield 9, 3) := by decide +kernel
theorem d_Ve_length_4 : decode b_Ve_length 4 = .ok (.iconst 5, 1) := by decide +kernel
theorem d_Ve_length_5 : decode b_Ve_length 5 = .ok (.laload, 1) := by decide +kernel
theorem d_Ve_length_6 : decode b_Ve_length 6 = .ok (.bipush 52, 2) := by decide +kernel
theorem d_Ve_length_8 : decode b_Ve_length 8 = .ok (.lushr, 1) := by decide +kernel
theorem d_Ve_length_9 : decode b_Ve_length 9 = .ok (.l2i, 1) := by decide +kernel
theorem d_Ve_length_10 : decode b_Ve_length 10 = .ok (.ireturn, 1) := by decide +kernel
def q_Ve_length : List (Nat × j_S) := [(0, j_ld 2 0 1),
  (1, j_gf [8] 0 4),
  (4, j_st (f_psh (.int 5)) 5),
  (5, j_al 1 6),
  (6, j_st (f_psh (.int 52)) 8),
  (8, j_st (f_li (fun a b => (a.toUInt64 >>> (b.toInt64.toUInt64 &&& Int64.toUInt64 63)).toInt64)) 9),
  (9, j_st (f_l2i) 10),
  (10, j_rt 0)]
def i_Ve_length : j_I := (R_Ve, b_Ve_length, 1, false, (some .int), [])
def e_Ve_length : j_E := ((y_Ve_length, c_Ve_length), i_Ve_length, j_tab q_Ve_length, [])
theorem o_Ve_length (G : j_G) : j_mok G tm e_Ve_length := ⟨by decide +kernel, Or.inl ⟨rfl, rfl⟩, rfl, (fun h => by cases h), j_tab_ok (i := i_Ve_length) (l := q_Ve_length) (j_all_mem ⟨r_aload_n d_Ve_length_0 rfl,
  r_getfield (j_all_mem ⟨⟨_, _, _, rfl, w_Ve, by decide, ⟨_, k_113, Or.inl rfl⟩⟩, trivial⟩) d_Ve_length_1,
  r_iconst d_Ve_length_4 (by decide),
  r_laload d_Ve_length_5,
  r_bipush d_Ve_length_6 (by decide),
  r_lushr d_Ve_length_8,
  r_l2i d_Ve_length_9,
  r_ireturn d_Ve_length_10 rfl, trivial⟩), (fun q h => by cases h), (fun _ => rfl)⟩
theorem d_Ve_moment_0 : decode b_Ve_moment 0 = .ok (.aload_n 0, 1) := by decide +kernel
theorem d_Ve_moment_1 : decode b_Ve_moment 1 = .ok (.getfield 9, 3) := by decide +kernel
theorem d_Ve_moment_4 : decode b_Ve_moment 4 = .ok (.iconst 5, 1) := by decide +kernel
theorem d_Ve_moment_5 : decode b_Ve_moment 5 = .ok (.laload, 1) := by decide +kernel
theorem d_Ve_moment_6 : decode b_Ve_moment 6 = .ok (.bipush 42, 2) := by decide +kernel
theorem d_Ve_moment_8 : decode b_Ve_moment 8 = .ok (.lushr, 1) := by decide +kernel
theorem d_Ve_moment_9 : decode b_Ve_moment 9 = .ok (.l2i, 1) := by decide +kernel
theorem d_Ve_moment_10 : decode b_Ve_moment 10 = .ok (.sipush 1023, 3) := by decide +kernel
theorem d_Ve_moment_13 : decode b_Ve_moment 13 = .ok (.iand, 1) := by decide +kernel
theorem d_Ve_moment_14 : decode b_Ve_moment 14 = .ok (.ireturn, 1) := by decide +kernel
def q_Ve_moment : List (Nat × j_S) := [(0, j_ld 2 0 1),
  (1, j_gf [8] 0 4),
  (4, j_st (f_psh (.int 5)) 5),
  (5, j_al 1 6),
  (6, j_st (f_psh (.int 42)) 8),
  (8, j_st (f_li (fun a b => (a.toUInt64 >>> (b.toInt64.toUInt64 &&& Int64.toUInt64 63)).toInt64)) 9),
  (9, j_st (f_l2i) 10),
  (10, j_st (f_psh (.int 1023)) 13),
  (13, j_st (f_ii (fun a b => a &&& b)) 14),
  (14, j_rt 0)]
def i_Ve_moment : j_I := (R_Ve, b_Ve_moment, 1, false, (some .int), [])
def e_Ve_moment : j_E := ((y_Ve_moment, c_Ve_moment), i_Ve_moment, j_tab q_Ve_moment, [])
theorem o_Ve_moment (G : j_G) : j_mok G tm e_Ve_moment := ⟨by decide +kernel, Or.inl ⟨rfl, rfl⟩, rfl, (fun h => by cases h), j_tab_ok (i := i_Ve_moment) (l := q_Ve_moment) (j_all_mem ⟨r_aload_n d_Ve_moment_0 rfl,
  r_getfield (j_all_mem ⟨⟨_, _, _, rfl, w_Ve, by decide, ⟨_, k_113, Or.inl rfl⟩⟩, trivial⟩) d_Ve_moment_1,
  r_iconst d_Ve_moment_4 (by decide),
  r_laload d_Ve_moment_5,
  r_bipush d_Ve_moment_6 (by decide),
  r_lushr d_Ve_moment_8,
  r_l2i d_Ve_moment_9,
  r_sipush d_Ve_moment_10 (by decide),
  r_iand d_Ve_moment_13,
  r_ireturn d_Ve_moment_14 rfl, trivial⟩), (fun q h => by cases h), (fun _ => rfl)⟩
theorem d_Ve_place_0 : decode b_Ve_place 0 = .ok (.aload_n 0, 1) := by decide +kernel
theorem d_Ve_place_1 : decode b_Ve_place 1 = .ok (.getfield 9, 3) := by decide +kernel
theorem d_Ve_place_4 : decode b_Ve_place 4 = .ok (.iconst 5, 1) := by decide +kernel
theorem d_Ve_place_5 : decode b_Ve_place 5 = .ok (.laload, 1) := by decide +kernel
theorem d_Ve_place_6 : decode b_Ve_place 6 = .ok (.l2i, 1) := by decide +kernel
theorem d_Ve_place_7 : decode b_Ve_place 7 = .ok (.ldc 15, 2) := by decide +kernel
theorem d_Ve_place_9 : decode b_Ve_place 9 = .ok (.iand, 1) := by decide +kernel
theorem d_Ve_place_10 : decode b_Ve_place 10 = .ok (.ireturn, 1) := by decide +kernel
def q_Ve_place : List (Nat × j_S) := [(0, j_ld 2 0 1),
  (1, j_gf [8] 0 4),
  (4, j_st (f_psh (.int 5)) 5),
  (5, j_al 1 6),
  (6, j_st (f_l2i) 7),
  (7, j_st (f_psh (.int (2147483647))) 9),
  (9, j_st (f_ii (fun a b => a &&& b)) 10),
  (10, j_rt 0)]
def i_Ve_place : j_I := (R_Ve, b_Ve_place, 1, false, (some .int), [])
def e_Ve_place : j_E := ((y_Ve_place, c_Ve_place), i_Ve_place, j_tab q_Ve_place, [])
theorem o_Ve_place (G : j_G) : j_mok G tm e_Ve_place := ⟨by decide +kernel, Or.inl ⟨rfl, rfl⟩, rfl, (fun h => by cases h), j_tab_ok (i := i_Ve_place) (l := q_Ve_place) (j_all_mem ⟨r_aload_n d_Ve_place_0 rfl,
  r_getfield (j_all_mem ⟨⟨_, _, _, rfl, w_Ve, by decide, ⟨_, k_113, Or.inl rfl⟩⟩, trivial⟩) d_Ve_place_1,
  r_iconst d_Ve_place_4 (by decide),
  r_laload d_Ve_place_5,
  r_l2i d_Ve_place_6,
  r_ldc k_1206 d_Ve_place_7,
  r_iand d_Ve_place_9,
  r_ireturn d_Ve_place_10 rfl, trivial⟩), (fun q h => by cases h), (fun _ => rfl)⟩
theorem d_Ve_setKey_0 : decode b_Ve_setKey 0 = .ok (.aload_n 0, 1) := by decide +kernel
theorem d_Ve_setKey_1 : decode b_Ve_setKey 1 = .ok (.getfield 9, 3) := by decide +kernel
theorem d_Ve_setKey_4 : decode b_Ve_setKey 4 = .ok (.lconst 0, 1) := by decide +kernel
theorem d_Ve_setKey_5 : decode b_Ve_setKey 5 = .ok (.invokestatic 22, 3) := by decide +kernel
theorem d_Ve_setKey_8 : decode b_Ve_setKey 8 = .ok (.iconst 0, 1) := by decide +kernel
theorem d_Ve_setKey_9 : decode b_Ve_setKey 9 = .ok (.istore_n 3, 1) := by decide +kernel
theorem d_Ve_setKey_10 : decode b_Ve_setKey 10 = .ok (.iload_n 3, 1) := by decide +kernel
theorem d_Ve_setKey_11 : decode b_Ve_setKey 11 = .ok (.iload_n 2, 1) := by decide +kernel
theorem d_Ve_setKey_12 : decode b_Ve_setKey 12 = .ok (.if_icmp .ge 51, 3) := by decide +kernel
theorem d_Ve_setKey_15 : decode b_Ve_setKey 15 = .ok (.iload_n 3, 1) := by decide +kernel
theorem d_Ve_setKey_16 : decode b_Ve_setKey 16 = .ok (.bipush 40, 2) := by decide +kernel
theorem d_Ve_setKey_18 : decode b_Ve_setKey 18 = .ok (.if_icmp .ge 45, 3) := by decide +kernel
theorem d_Ve_setKey_21 : decode b_Ve_setKey 21 = .ok (.iload_n 3, 1) := by decide +kernel
theorem d_Ve_setKey_22 : decode b_Ve_setKey 22 = .ok (.aload_n 1, 1) := by decide +kernel
theorem d_Ve_setKey_23 : decode b_Ve_setKey 23 = .ok (.arraylength, 1) := by decide +kernel
theorem d_Ve_setKey_24 : decode b_Ve_setKey 24 = .ok (.if_icmp .ge 39, 3) := by decide +kernel
theorem d_Ve_setKey_27 : decode b_Ve_setKey 27 = .ok (.aload_n 0, 1) := by decide +kernel
theorem d_Ve_setKey_28 : decode b_Ve_setKey 28 = .ok (.getfield 9, 3) := by decide +kernel
theorem d_Ve_setKey_31 : decode b_Ve_setKey 31 = .ok (.iload_n 3, 1) := by decide +kernel
theorem d_Ve_setKey_32 : decode b_Ve_setKey 32 = .ok (.iconst 3, 1) := by decide +kernel
theorem d_Ve_setKey_33 : decode b_Ve_setKey 33 = .ok (.ishr, 1) := by decide +kernel
theorem d_Ve_setKey_34 : decode b_Ve_setKey 34 = .ok (.dup2, 1) := by decide +kernel
theorem d_Ve_setKey_35 : decode b_Ve_setKey 35 = .ok (.laload, 1) := by decide +kernel
theorem d_Ve_setKey_36 : decode b_Ve_setKey 36 = .ok (.aload_n 1, 1) := by decide +kernel
theorem d_Ve_setKey_37 : decode b_Ve_setKey 37 = .ok (.iload_n 3, 1) := by decide +kernel
theorem d_Ve_setKey_38 : decode b_Ve_setKey 38 = .ok (.baload, 1) := by decide +kernel
theorem d_Ve_setKey_39 : decode b_Ve_setKey 39 = .ok (.i2l, 1) := by decide +kernel
theorem d_Ve_setKey_40 : decode b_Ve_setKey 40 = .ok (.ldc2_w 28, 3) := by decide +kernel
theorem d_Ve_setKey_43 : decode b_Ve_setKey 43 = .ok (.land, 1) := by decide +kernel
theorem d_Ve_setKey_44 : decode b_Ve_setKey 44 = .ok (.bipush 56, 2) := by decide +kernel
theorem d_Ve_setKey_46 : decode b_Ve_setKey 46 = .ok (.bipush 8, 2) := by decide +kernel
theorem d_Ve_setKey_48 : decode b_Ve_setKey 48 = .ok (.iload_n 3, 1) := by decide +kernel
theorem d_Ve_setKey_49 : decode b_Ve_setKey 49 = .ok (.bipush 7, 2) := by decide +kernel
theorem d_Ve_setKey_51 : decode b_Ve_setKey 51 = .ok (.iand, 1) := by decide +kernel
theorem d_Ve_setKey_52 : decode b_Ve_setKey 52 = .ok (.imul, 1) := by decide +kernel
theorem d_Ve_setKey_53 : decode b_Ve_setKey 53 = .ok (.isub, 1) := by decide +kernel
theorem d_Ve_setKey_54 : decode b_Ve_setKey 54 = .ok (.lshl, 1) := by decide +kernel
theorem d_Ve_setKey_55 : decode b_Ve_setKey 55 = .ok (.lor, 1) := by decide +kernel
theorem d_Ve_setKey_56 : decode b_Ve_setKey 56 = .ok (.lastore, 1) := by decide +kernel
theorem d_Ve_setKey_57 : decode b_Ve_setKey 57 = .ok (.iinc 3 1, 3) := by decide +kernel
theorem d_Ve_setKey_60 : decode b_Ve_setKey 60 = .ok (.goto (-50), 3) := by decide +kernel
theorem d_Ve_setKey_63 : decode b_Ve_setKey 63 = .ok (.aload_n 0, 1) := by decide +kernel
theorem d_Ve_setKey_64 : decode b_Ve_setKey 64 = .ok (.getfield 9, 3) := by decide +kernel
theorem d_Ve_setKey_67 : decode b_Ve_setKey 67 = .ok (.iconst 5, 1) := by decide +kernel
theorem d_Ve_setKey_68 : decode b_Ve_setKey 68 = .ok (.iload_n 2, 1) := by decide +kernel
theorem d_Ve_setKey_69 : decode b_Ve_setKey 69 = .ok (.i2l, 1) := by decide +kernel
theorem d_Ve_setKey_70 : decode b_Ve_setKey 70 = .ok (.bipush 52, 2) := by decide +kernel
theorem d_Ve_setKey_72 : decode b_Ve_setKey 72 = .ok (.lshl, 1) := by decide +kernel
theorem d_Ve_setKey_73 : decode b_Ve_setKey 73 = .ok (.lastore, 1) := by decide +kernel
theorem d_Ve_setKey_74 : decode b_Ve_setKey 74 = .ok (.return_, 1) := by decide +kernel
def q_Ve_setKey : List (Nat × j_S) := [(0, j_ld 2 0 1),
  (1, j_gf [8] 0 4),
  (4, j_st (f_psh (.long 0)) 5),
  (5, j_cs 20 2),
  (8, j_st (f_psh (.int 0)) 9),
  (9, j_so 0 3 10),
  (10, j_ld 0 3 11),
  (11, j_ld 0 2 12),
  (12, j_br (f_ic (fun x y => decide (y ≤ x))) 63 15),
  (15, j_ld 0 3 16),
  (16, j_st (f_psh (.int 40)) 18),
  (18, j_br (f_ic (fun x y => decide (y ≤ x))) 63 21),
  (21, j_ld 0 3 22),
  (22, j_ld 2 1 23),
  (23, j_an 24),
  (24, j_br (f_ic (fun x y => decide (y ≤ x))) 63 27),
  (27, j_ld 2 0 28),
  (28, j_gf [8] 0 31),
  (31, j_ld 0 3 32),
  (32, j_st (f_psh (.int 3)) 33),
  (33, j_st (f_ii (fun a b => a >>> (b &&& 31))) 34),
  (34, j_st (f_dup2) 35),
  (35, j_al 1 36),
  (36, j_ld 2 1 37),
  (37, j_ld 0 3 38),
  (38, j_alb 39),
  (39, j_st (f_i2l) 40),
  (40, j_st (f_psh (.long (255))) 43),
  (43, j_st (f_ll (fun a b => a &&& b)) 44),
  (44, j_st (f_psh (.int 56)) 46),
  (46, j_st (f_psh (.int 8)) 48),
  (48, j_ld 0 3 49),
  (49, j_st (f_psh (.int 7)) 51),
  (51, j_st (f_ii (fun a b => a &&& b)) 52),
  (52, j_st (f_ii (fun a b => a * b)) 53),
  (53, j_st (f_ii (fun a b => a - b)) 54),
  (54, j_st (f_li (fun a b => a <<< (b.toInt64 &&& 63))) 55),
  (55, j_st (f_ll (fun a b => a ||| b)) 56),
  (56, j_aj 57),
  (57, j_ic 3 1 60),
  (60, j_st f_id 10),
  (63, j_ld 2 0 64),
  (64, j_gf [8] 0 67),
  (67, j_st (f_psh (.int 5)) 68),
  (68, j_ld 0 2 69),
  (69, j_st (f_i2l) 70),
  (70, j_st (f_psh (.int 52)) 72),
  (72, j_st (f_li (fun a b => a <<< (b.toInt64 &&& 63))) 73),
  (73, j_aj 74),
  (74, j_rv)]
def i_Ve_setKey : j_I := (R_Ve, b_Ve_setKey, 4, false, none, [])
def e_Ve_setKey : j_E := ((y_Ve_setKey, c_Ve_setKey), i_Ve_setKey, j_tab q_Ve_setKey, [])
theorem o_Ve_setKey (G : j_G) : j_mok G tm e_Ve_setKey := ⟨by decide +kernel, Or.inl ⟨rfl, rfl⟩, rfl, (fun h => by cases h), j_tab_ok (i := i_Ve_setKey) (l := q_Ve_setKey) (j_all_mem ⟨r_aload_n d_Ve_setKey_0 rfl,
  r_getfield (j_all_mem ⟨⟨_, _, _, rfl, w_Ve, by decide, ⟨_, k_113, Or.inl rfl⟩⟩, trivial⟩) d_Ve_setKey_1,
  r_lconst d_Ve_setKey_4 (by decide),
  r_invS k_1109 k_587 cw_Ar_fill_2aJ (by decide) (by decide +kernel) d_Ve_setKey_5,
  r_iconst d_Ve_setKey_8 (by decide),
  r_istore_n d_Ve_setKey_9 rfl (by decide),
  r_iload_n d_Ve_setKey_10 rfl,
  r_iload_n d_Ve_setKey_11 rfl,
  r_ic_ge d_Ve_setKey_12 (by decide),
  r_iload_n d_Ve_setKey_15 rfl,
  r_bipush d_Ve_setKey_16 (by decide),
  r_ic_ge d_Ve_setKey_18 (by decide),
  r_iload_n d_Ve_setKey_21 rfl,
  r_aload_n d_Ve_setKey_22 rfl,
  r_alen d_Ve_setKey_23,
  r_ic_ge d_Ve_setKey_24 (by decide),
  r_aload_n d_Ve_setKey_27 rfl,
  r_getfield (j_all_mem ⟨⟨_, _, _, rfl, w_Ve, by decide, ⟨_, k_113, Or.inl rfl⟩⟩, trivial⟩) d_Ve_setKey_28,
  r_iload_n d_Ve_setKey_31 rfl,
  r_iconst d_Ve_setKey_32 (by decide),
  r_ishr d_Ve_setKey_33,
  r_dup2 d_Ve_setKey_34,
  r_laload d_Ve_setKey_35,
  r_aload_n d_Ve_setKey_36 rfl,
  r_iload_n d_Ve_setKey_37 rfl,
  r_baload2 d_Ve_setKey_38,
  r_i2l d_Ve_setKey_39,
  r_ldc2 k_1110 d_Ve_setKey_40,
  r_land d_Ve_setKey_43,
  r_bipush d_Ve_setKey_44 (by decide),
  r_bipush d_Ve_setKey_46 (by decide),
  r_iload_n d_Ve_setKey_48 rfl,
  r_bipush d_Ve_setKey_49 (by decide),
  r_iand d_Ve_setKey_51,
  r_imul d_Ve_setKey_52,
  r_isub d_Ve_setKey_53,
  r_lshl d_Ve_setKey_54,
  r_lor d_Ve_setKey_55,
  r_lastore d_Ve_setKey_56,
  j_ok_ic d_Ve_setKey_57 rfl (by decide) (by decide),
  r_goto d_Ve_setKey_60 (by decide),
  r_aload_n d_Ve_setKey_63 rfl,
  r_getfield (j_all_mem ⟨⟨_, _, _, rfl, w_Ve, by decide, ⟨_, k_113, Or.inl rfl⟩⟩, trivial⟩) d_Ve_setKey_64,
  r_iconst d_Ve_setKey_67 (by decide),
  r_iload_n d_Ve_setKey_68 rfl,
  r_i2l d_Ve_setKey_69,
  r_bipush d_Ve_setKey_70 (by decide),
  r_lshl d_Ve_setKey_72,
  r_lastore d_Ve_setKey_73,
  r_return d_Ve_setKey_74 rfl, trivial⟩), (fun q h => by cases h), (fun _ => rfl)⟩
theorem d_Ve_setMoment_0 : decode b_Ve_setMoment 0 = .ok (.aload_n 0, 1) := by decide +kernel
theorem d_Ve_setMoment_1 : decode b_Ve_setMoment 1 = .ok (.iload_n 1, 1) := by decide +kernel
theorem d_Ve_setMoment_2 : decode b_Ve_setMoment 2 = .ok (.iconst 0, 1) := by decide +kernel
theorem d_Ve_setMoment_3 : decode b_Ve_setMoment 3 = .ok (.iconst 0, 1) := by decide +kernel
theorem d_Ve_setMoment_4 : decode b_Ve_setMoment 4 = .ok (.iconst 0, 1) := by decide +kernel
theorem d_Ve_setMoment_5 : decode b_Ve_setMoment 5 = .ok (.invokevirtual 30, 3) := by decide +kernel
theorem d_Ve_setMoment_8 : decode b_Ve_setMoment 8 = .ok (.return_, 1) := by decide +kernel
def q_Ve_setMoment : List (Nat × j_S) := [(0, j_ld 2 0 1),
  (1, j_ld 0 1 2),
  (2, j_st (f_psh (.int 0)) 3),
  (3, j_st (f_psh (.int 0)) 4),
  (4, j_st (f_psh (.int 0)) 5),
  (5, j_cv [(8, 131)] 4),
  (8, j_rv)]
def i_Ve_setMoment : j_I := (R_Ve, b_Ve_setMoment, 2, false, none, [])
def e_Ve_setMoment : j_E := ((y_Ve_setMoment, c_Ve_setMoment), i_Ve_setMoment, j_tab q_Ve_setMoment, [])
theorem o_Ve_setMoment (G : j_G) : j_mok G tm e_Ve_setMoment := ⟨by decide +kernel, Or.inl ⟨rfl, rfl⟩, rfl, (fun h => by cases h), j_tab_ok (i := i_Ve_setMoment) (l := q_Ve_setMoment) (j_all_mem ⟨r_aload_n d_Ve_setMoment_0 rfl,
  r_iload_n d_Ve_setMoment_1 rfl,
  r_iconst d_Ve_setMoment_2 (by decide),
  r_iconst d_Ve_setMoment_3 (by decide),
  r_iconst d_Ve_setMoment_4 (by decide),
  r_invV (j_all_mem ⟨⟨⟨_, _, _, rfl, k_314, k_315, k_316⟩, cw_Ve_describe, by decide, by decide +kernel⟩, trivial⟩) d_Ve_setMoment_5,
  r_return d_Ve_setMoment_8 rfl, trivial⟩), (fun q h => by cases h), (fun _ => rfl)⟩
theorem d_Ve_size_0 : decode b_Ve_size 0 = .ok (.aload_n 0, 1) := by decide +kernel
theorem d_Ve_size_1 : decode b_Ve_size 1 = .ok (.getfield 9, 3) := by decide +kernel
theorem d_Ve_size_4 : decode b_Ve_size 4 = .ok (.iconst 5, 1) := by decide +kernel
theorem d_Ve_size_5 : decode b_Ve_size 5 = .ok (.laload, 1) := by decide +kernel
theorem d_Ve_size_6 : decode b_Ve_size 6 = .ok (.bipush 31, 2) := by decide +kernel
theorem d_Ve_size_8 : decode b_Ve_size 8 = .ok (.lushr, 1) := by decide +kernel
theorem d_Ve_size_9 : decode b_Ve_size 9 = .ok (.l2i, 1) := by decide +kernel
theorem d_Ve_size_10 : decode b_Ve_size 10 = .ok (.sipush 1023, 3) := by decide +kernel
theorem d_Ve_size_13 : decode b_Ve_size 13 = .ok (.iand, 1) := by decide +kernel
theorem d_Ve_size_14 : decode b_Ve_size 14 = .ok (.ireturn, 1) := by decide +kernel
def q_Ve_size : List (Nat × j_S) := [(0, j_ld 2 0 1),
  (1, j_gf [8] 0 4),
  (4, j_st (f_psh (.int 5)) 5),
  (5, j_al 1 6),
  (6, j_st (f_psh (.int 31)) 8),
  (8, j_st (f_li (fun a b => (a.toUInt64 >>> (b.toInt64.toUInt64 &&& Int64.toUInt64 63)).toInt64)) 9),
  (9, j_st (f_l2i) 10),
  (10, j_st (f_psh (.int 1023)) 13),
  (13, j_st (f_ii (fun a b => a &&& b)) 14),
  (14, j_rt 0)]
def i_Ve_size : j_I := (R_Ve, b_Ve_size, 1, false, (some .int), [])
def e_Ve_size : j_E := ((y_Ve_size, c_Ve_size), i_Ve_size, j_tab q_Ve_size, [])
theorem o_Ve_size (G : j_G) : j_mok G tm e_Ve_size := ⟨by decide +kernel, Or.inl ⟨rfl, rfl⟩, rfl, (fun h => by cases h), j_tab_ok (i := i_Ve_size) (l := q_Ve_size) (j_all_mem ⟨r_aload_n d_Ve_size_0 rfl,
  r_getfield (j_all_mem ⟨⟨_, _, _, rfl, w_Ve, by decide, ⟨_, k_113, Or.inl rfl⟩⟩, trivial⟩) d_Ve_size_1,
  r_iconst d_Ve_size_4 (by decide),
  r_laload d_Ve_size_5,
  r_bipush d_Ve_size_6 (by decide),
  r_lushr d_Ve_size_8,
  r_l2i d_Ve_size_9,
  r_sipush d_Ve_size_10 (by decide),
  r_iand d_Ve_size_13,
  r_ireturn d_Ve_size_14 rfl, trivial⟩), (fun q h => by cases h), (fun _ => rfl)⟩
theorem d_Ve_words_0 : decode b_Ve_words 0 = .ok (.aload_n 0, 1) := by decide +kernel
theorem d_Ve_words_1 : decode b_Ve_words 1 = .ok (.getfield 9, 3) := by decide +kernel
theorem d_Ve_words_4 : decode b_Ve_words 4 = .ok (.areturn, 1) := by decide +kernel
def q_Ve_words : List (Nat × j_S) := [(0, j_ld 2 0 1),
  (1, j_gf [8] 0 4),
  (4, j_rt 2)]
def i_Ve_words : j_I := (R_Ve, b_Ve_words, 1, false, (some (.array .long)), [])
def e_Ve_words : j_E := ((y_Ve_words, c_Ve_words), i_Ve_words, j_tab q_Ve_words, [])
theorem o_Ve_words (G : j_G) : j_mok G tm e_Ve_words := ⟨by decide +kernel, Or.inl ⟨rfl, rfl⟩, rfl, (fun h => by cases h), j_tab_ok (i := i_Ve_words) (l := q_Ve_words) (j_all_mem ⟨r_aload_n d_Ve_words_0 rfl,
  r_getfield (j_all_mem ⟨⟨_, _, _, rfl, w_Ve, by decide, ⟨_, k_113, Or.inl rfl⟩⟩, trivial⟩) d_Ve_words_1,
  r_areturn d_Ve_words_4 rfl (by first | exact Or.inl ⟨_, rfl⟩ | exact Or.inr ⟨_, rfl⟩), trivial⟩), (fun q h => by cases h), (fun _ => rfl)⟩
