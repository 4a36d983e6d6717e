/-! CONSTRUCTORS at their cells (written by a program of ours, /wip/whole/geninit.py) -/
def kc_5 : j_C := .inr (1, [.int 0, .ref 6])
def kc_6 : j_C := zB 60
def kc_7 : j_C := .inr (2, [.int 0, .ref 8])
def kc_8 : j_C := .inl (0, 8, .inl (flI (fun _ => 0) 8 (-1)))
def kc_9 : j_C := .inr (3, [.int 0, .ref 10, .ref 11, .ref 12, .ref 13])
def kc_10 : j_C := zQ 7 1000
def kc_11 : j_C := zI 1000
def kc_12 : j_C := zI 1000
def kc_13 : j_C := zI 1000
def kc_14 : j_C := .inr (4, [.ref 15, .int 0, .ref 17])
def kc_15 : j_C := .inr (8, [.ref 16])
def kc_16 : j_C := zJ 6
def kc_17 : j_C := zJ 3000
def kc_18 : j_C := .inl (5, 4, .inr (.inr (.inr (.inr (va_up (va_up (va_up (va_up (fun _ => none) 0 (some 32)) 1 (some 36)) 2 (some 40)) 3 (some 44))))))
def kc_19 : j_C := .inl (4, 5, .inr (.inr (.inr (.inr (va_up (va_up (va_up (va_up (va_up (fun _ => none) 0 (some 14)) 1 (some 32)) 2 (some 36)) 3 (some 40)) 4 (some 44))))))
def kc_20 : j_C := .inr (8, [.ref 21])
def kc_21 : j_C := zJ 6
def kc_22 : j_C := .inr (8, [.ref 23])
def kc_23 : j_C := zJ 6
def kc_24 : j_C := .inr (8, [.ref 25])
def kc_25 : j_C := zJ 6
def kc_26 : j_C := .inr (8, [.ref 27])
def kc_27 : j_C := zJ 6
def kc_28 : j_C := .inr (8, [.ref 29])
def kc_29 : j_C := zJ 6
def kc_30 : j_C := .inr (8, [.ref 31])
def kc_31 : j_C := zJ 6
def kc_32 : j_C := .inr (5, [.ref 33, .int 0, .ref 9, .ref 35])
def kc_33 : j_C := .inr (8, [.ref 34])
def kc_34 : j_C := zJ 6
def kc_35 : j_C := .inr (10, [.int 0, .ref 2, .int 0])
def kc_36 : j_C := .inr (5, [.ref 37, .int 0, .ref 9, .ref 39])
def kc_37 : j_C := .inr (8, [.ref 38])
def kc_38 : j_C := zJ 6
def kc_39 : j_C := .inr (10, [.int 0, .ref 2, .int 0])
def kc_40 : j_C := .inr (5, [.ref 41, .int 0, .ref 9, .ref 43])
def kc_41 : j_C := .inr (8, [.ref 42])
def kc_42 : j_C := zJ 6
def kc_43 : j_C := .inr (10, [.int 0, .ref 2, .int 0])
def kc_44 : j_C := .inr (5, [.ref 45, .int 0, .ref 9, .ref 47])
def kc_45 : j_C := .inr (8, [.ref 46])
def kc_46 : j_C := zJ 6
def kc_47 : j_C := .inr (10, [.int 0, .ref 2, .int 0])
def kc_48 : j_C := .inr (6, [.int 0, .int 0, .ref 19, .ref 49, .ref 50, .ref 51, .ref 52, .ref 54])
def kc_49 : j_C := zI 5
def kc_50 : j_C := zI 5
def kc_51 : j_C := .inl (3, 5, .inr (.inr (.inr (.inr (va_up (va_up (va_up (va_up (va_up (fun _ => none) 0 (some 56)) 1 (some 58)) 2 (some 60)) 3 (some 62)) 4 (some 64))))))
def kc_52 : j_C := .inr (8, [.ref 53])
def kc_53 : j_C := zJ 6
def kc_54 : j_C := .inr (8, [.ref 55])
def kc_55 : j_C := zJ 6
def kc_56 : j_C := .inr (8, [.ref 57])
def kc_57 : j_C := zJ 6
def kc_58 : j_C := .inr (8, [.ref 59])
def kc_59 : j_C := zJ 6
def kc_60 : j_C := .inr (8, [.ref 61])
def kc_61 : j_C := zJ 6
def kc_62 : j_C := .inr (8, [.ref 63])
def kc_63 : j_C := zJ 6
def kc_64 : j_C := .inr (8, [.ref 65])
def kc_65 : j_C := zJ 6
def kc_66 : j_C := .inr (7, [.int 0, .long 0, .ref 9, .ref 67, .ref 68])
def kc_67 : j_C := .inr (10, [.int 0, .ref 2, .int 0])
def kc_68 : j_C := zI 63
def kc_69 : j_C := .inr (11, [.int 0, .int 0, .int 0, .int 0, .int (-1), .ref 70, .ref 71, .ref 72, .ref 73, .ref 74, .ref 75, .ref 76])
def kc_70 : j_C := zB 60
def kc_71 : j_C := zB 20000
def kc_72 : j_C := zI 500
def kc_73 : j_C := zI 500
def kc_74 : j_C := zI 500
def kc_75 : j_C := .inl (8, 8, .inl (fun _ => 0))
def kc_76 : j_C := zI 8
section INITG
variable {s i : Nat} {b : Nat → Option j_C} {l : List (Option j_C)}
theorem iM_Me (d : Nat) {a : Nat} (ha : 4 + i = a) (h : l[i]? = some (some (.inr (4, [.null, .int 0, .null])))) {l' : List (Option j_C)} (hl' : ((((((l ++ [(some (.inr (8, [.null])) : Option j_C)]) ++ [some (zJ 6)]).set l.length (some (.inr (8, [.ref (4 + l.length + 1)])))).set i (some (.inr (4, [.ref (4 + l.length), .int 0, .null])))) ++ [some (zJ 3000)]).set i (some (.inr (4, [.ref (4 + l.length), .int 0, .ref (4 + l.length + 2)]))) = l')) : j_ex tb (d + 3) m_Me_init [.ref a] (M_ s b l) (.inl none) (M_ (s + 1 + 6 + 3000) b l') := by
  subst ha
  subst hl'
  obtain ⟨h1, h2⟩ := getE h
  have k := x_Me_init d (mem := M_ s b l) (h2 s b) (by rw [M_1]; omega)
  rw [M_1, M_new, M_new, M_set _ _ _ (by simp), M_set _ _ _ (by simp; omega), M_new, M_set _ _ _ (by simp; omega)] at k
  exact k
theorem iM_Lv (d : Nat) {a : Nat} (ha : 4 + i = a) (h : l[i]? = some (some (.inr (5, [.null, .int 0, .null, .null])))) {l' : List (Option j_C)} (hl' : ((((((((l ++ [(some (.inr (8, [.null])) : Option j_C)]) ++ [some (zJ 6)]).set l.length (some (.inr (8, [.ref (4 + l.length + 1)])))).set i (some (.inr (5, [.ref (4 + l.length), .int 0, .null, .null])))) ++ [(some (.inr (10, [.int 0, .null, .int 0])) : Option j_C)]).set (l.length + 2) (some (.inr (10, [.int 0, .ref 2, .int 0])))).set i (some (.inr (5, [.ref (4 + l.length), .int 0, .null, .ref (4 + l.length + 2)])))).set i (some (.inr (5, [.ref (4 + l.length), .int 0, .ref 9, .ref (4 + l.length + 2)]))) = l')) : j_ex tb (d + 4) m_Lv_init [.ref a, .ref 9] (M_ s b l) (.inl none) (M_ (s + 1 + 6 + 3) b l') := by
  subst ha
  subst hl'
  obtain ⟨h1, h2⟩ := getE h
  have k := x_Lv_init d (mem := M_ s b l) (h2 s b) (by rw [M_1]; omega)
  rw [M_1, M_new, M_new, M_set _ _ _ (by simp), M_set _ _ _ (by simp; omega), M_new, show 4 + l.length + 2 = 4 + (l.length + 2) by omega, M_set _ _ _ (by simp), M_set _ _ _ (by simp; omega), M_set _ _ _ (by simp; omega)] at k
  exact k
theorem xv_alq {d : Nat} {C : Nat → List Value → j_M → j_O → j_M → Prop} {code : Nat → j_S} {hn : List (Nat × Nat × Nat)} {o : j_O} {F : j_M → Prop} {pc : Nat} {lc : j_L} {st : List Value} {n k len a y v : Nat} {f : Nat → Option Nat} (hc : code pc = j_alq n) (hi : 4 + i = a) (hl : l[i]? = some (some (.inl (k, len, .inr (.inr (.inr (.inr f))))))) (hk : (Nat.ble 3 k && Nat.ble k 7) = true) (hy : y < len) (hy2 : y < 2 ^ 31) (hv : f y = some v) (kk : Xv d C code hn o F n lc (.ref v :: st) (M_ s b l)) : Xv d C code hn o F pc lc (.int (nI y) :: .ref a :: st) (M_ s b l) := by
  subst hi
  obtain ⟨h1, h2⟩ := getE hl
  have hin : j_in (nI y) len = true := i_in' hy hy2
  refine xv_go (mem' := M_ s b l) (st' := .ref v :: st) (pc' := n) (lc' := lc) (by rw [hc]; simp only [j_alq, h2 s b, hk, hin, nI_clamp hy2, hv, Bool.and_self, cond_true]; rfl) (by simp) kk
end INITG
theorem iM_Ch (d : Nat) {s : Nat} {b : Nat → Option j_C} {c4 c5 c6 c7 c8 : Option j_C} : j_ex tb (d + 1) m_Ch_init [.ref 9] (M_ s b [c4, c5, c6, c7, c8, some (.inr (3, [.int 0, .null, .null, .null, .null]))]) (.inl none) (M_ (s + 4000) b [c4, c5, c6, c7, c8, some (kc_9), some (kc_10), some (kc_11), some (kc_12), some (kc_13)]) := by
  have k : Xv (d + 1) (j_ex tb (d + 0)) (j_tab q_Ch_init) [] (.inl none) (fun mo => mo = M_ (s + 4000) b [c4, c5, c6, c7, c8, some (kc_9), some (kc_10), some (kc_11), some (kc_12), some (kc_13)]) 0 (j_en 1 [.ref 9]) [] (M_ s b [c4, c5, c6, c7, c8, some (.inr (3, [.int 0, .null, .null, .null, .null]))]) := by
    refine xv_go rfl (by rfl) ?_
    refine xv_go rfl (by rfl) ?_
    refine xv_go rfl (by rfl) ?_
    refine xv_go rfl (by rfl) ?_
    refine xv_na (m := 1000) (a := 10) rfl (by omega) rfl ?_
    refine xv_pf (i := 5) rfl rfl rfl rfl rfl rfl rfl ?_
    refine xv_go rfl (by rfl) ?_
    refine xv_go rfl (by rfl) ?_
    refine xv_na (m := 1000) (a := 11) rfl (by omega) rfl ?_
    refine xv_pf (i := 5) rfl rfl rfl rfl rfl rfl rfl ?_
    refine xv_go rfl (by rfl) ?_
    refine xv_go rfl (by rfl) ?_
    refine xv_na (m := 1000) (a := 12) rfl (by omega) rfl ?_
    refine xv_pf (i := 5) rfl rfl rfl rfl rfl rfl rfl ?_
    refine xv_go rfl (by rfl) ?_
    refine xv_go rfl (by rfl) ?_
    refine xv_na (m := 1000) (a := 13) rfl (by omega) rfl ?_
    refine xv_pf (i := 5) rfl rfl rfl rfl rfl rfl rfl ?_
    refine xv_ret rfl ?_
    refine congrArg (fun t => M_ t b _) ?_
    omega
  obtain ⟨mo, k1, rfl⟩ := k
  exact ⟨e_Ch_init, rfl, Nat.le_of_ble_eq_true rfl, k1⟩
theorem iM_Wk (d : Nat) {s : Nat} {b : Nat → Option j_C} {c4 c5 c6 c7 c8 c9 c10 c11 c12 c13 c14 c15 c16 c17 c18 c19 c20 c21 c22 c23 c24 c25 c26 c27 c28 c29 c30 c31 c32 c33 c34 c35 c36 c37 c38 c39 c40 c41 c42 c43 c44 c45 c46 c47 : Option j_C} : j_ex tb (d + 2) m_Wk_init [.ref 48, .ref 19] (M_ s b [c4, c5, c6, c7, c8, c9, c10, c11, c12, c13, c14, c15, c16, c17, c18, c19, c20, c21, c22, c23, c24, c25, c26, c27, c28, c29, c30, c31, c32, c33, c34, c35, c36, c37, c38, c39, c40, c41, c42, c43, c44, c45, c46, c47, some (.inr (6, [.int 0, .int 0, .null, .null, .null, .null, .null, .null]))]) (.inl none) (M_ (s + 64) b [c4, c5, c6, c7, c8, c9, c10, c11, c12, c13, c14, c15, c16, c17, c18, c19, c20, c21, c22, c23, c24, c25, c26, c27, c28, c29, c30, c31, c32, c33, c34, c35, c36, c37, c38, c39, c40, c41, c42, c43, c44, c45, c46, c47, some (kc_48), some (kc_49), some (kc_50), some (kc_51), some (kc_52), some (kc_53), some (kc_54), some (kc_55), some (kc_56), some (kc_57), some (kc_58), some (kc_59), some (kc_60), some (kc_61), some (kc_62), some (kc_63), some (kc_64), some (kc_65)]) := by
  have k : Xv (d + 2) (j_ex tb (d + 1)) (j_tab q_Wk_init) [] (.inl none) (fun mo => mo = M_ (s + 64) b [c4, c5, c6, c7, c8, c9, c10, c11, c12, c13, c14, c15, c16, c17, c18, c19, c20, c21, c22, c23, c24, c25, c26, c27, c28, c29, c30, c31, c32, c33, c34, c35, c36, c37, c38, c39, c40, c41, c42, c43, c44, c45, c46, c47, some (kc_48), some (kc_49), some (kc_50), some (kc_51), some (kc_52), some (kc_53), some (kc_54), some (kc_55), some (kc_56), some (kc_57), some (kc_58), some (kc_59), some (kc_60), some (kc_61), some (kc_62), some (kc_63), some (kc_64), some (kc_65)]) 0 (j_en 3 [.ref 48, .ref 19]) [] (M_ s b [c4, c5, c6, c7, c8, c9, c10, c11, c12, c13, c14, c15, c16, c17, c18, c19, c20, c21, c22, c23, c24, c25, c26, c27, c28, c29, c30, c31, c32, c33, c34, c35, c36, c37, c38, c39, c40, c41, c42, c43, c44, c45, c46, c47, some (.inr (6, [.int 0, .int 0, .null, .null, .null, .null, .null, .null]))]) := by
    refine xv_go rfl (by rfl) ?_
    refine xv_go rfl (by rfl) ?_
    refine xv_go rfl (by rfl) ?_
    refine xv_go rfl (by rfl) ?_
    refine xv_na (m := 5) (a := 49) rfl (by omega) rfl ?_
    refine xv_pf (i := 44) rfl rfl rfl rfl rfl rfl rfl ?_
    refine xv_go rfl (by rfl) ?_
    refine xv_go rfl (by rfl) ?_
    refine xv_na (m := 5) (a := 50) rfl (by omega) rfl ?_
    refine xv_pf (i := 44) rfl rfl rfl rfl rfl rfl rfl ?_
    refine xv_go rfl (by rfl) ?_
    refine xv_go rfl (by rfl) ?_
    refine xv_na (m := 5) (a := 51) rfl (by omega) rfl ?_
    refine xv_pf (i := 44) rfl rfl rfl rfl rfl rfl rfl ?_
    refine xv_go rfl (by rfl) ?_
    refine xv_nw (a := 52) rfl rfl ?_
    refine xv_go rfl (by rfl) ?_
    refine xv_call rfl (iM_Ve _ (i := 48) (a := 52) (l' := [c4, c5, c6, c7, c8, c9, c10, c11, c12, c13, c14, c15, c16, c17, c18, c19, c20, c21, c22, c23, c24, c25, c26, c27, c28, c29, c30, c31, c32, c33, c34, c35, c36, c37, c38, c39, c40, c41, c42, c43, c44, c45, c46, c47, some (.inr (6, [.int 0, .int 0, .null, .ref 49, .ref 50, .ref 51, .null, .null])), some (kc_49), some (kc_50), some (.inl (3, 5, .inr (.inr (.inr (.inr (fun _ => none)))))), some (kc_52), some (kc_53)]) rfl rfl rfl) ?_
    refine xv_pf (i := 44) rfl rfl rfl rfl rfl rfl rfl ?_
    refine xv_go rfl (by rfl) ?_
    refine xv_nw (a := 54) rfl rfl ?_
    refine xv_go rfl (by rfl) ?_
    refine xv_call rfl (iM_Ve _ (i := 50) (a := 54) (l' := [c4, c5, c6, c7, c8, c9, c10, c11, c12, c13, c14, c15, c16, c17, c18, c19, c20, c21, c22, c23, c24, c25, c26, c27, c28, c29, c30, c31, c32, c33, c34, c35, c36, c37, c38, c39, c40, c41, c42, c43, c44, c45, c46, c47, some (.inr (6, [.int 0, .int 0, .null, .ref 49, .ref 50, .ref 51, .ref 52, .null])), some (kc_49), some (kc_50), some (.inl (3, 5, .inr (.inr (.inr (.inr (fun _ => none)))))), some (kc_52), some (kc_53), some (kc_54), some (kc_55)]) rfl rfl rfl) ?_
    refine xv_pf (i := 44) rfl rfl rfl rfl rfl rfl rfl ?_
    refine xv_go rfl (by rfl) ?_
    refine xv_go rfl (by rfl) ?_
    refine xv_pf (i := 44) rfl rfl rfl rfl rfl rfl rfl ?_
    refine xv_go rfl (by rfl) ?_
    refine xv_go rfl (by rfl) ?_
    refine xv_go rfl (by rfl) ?_
    refine xv_go rfl (by rfl) ?_
    refine xv_go rfl (by rfl) ?_
    refine xv_go rfl (by rfl) ?_
    refine xv_gf (i := 44) rfl rfl rfl rfl rfl ?_
    refine xv_go rfl (by rfl) ?_
    refine xv_nw (a := 56) rfl rfl ?_
    refine xv_go rfl (by rfl) ?_
    refine xv_call rfl (iM_Ve _ (i := 52) (a := 56) (l' := [c4, c5, c6, c7, c8, c9, c10, c11, c12, c13, c14, c15, c16, c17, c18, c19, c20, c21, c22, c23, c24, c25, c26, c27, c28, c29, c30, c31, c32, c33, c34, c35, c36, c37, c38, c39, c40, c41, c42, c43, c44, c45, c46, c47, some (.inr (6, [.int 0, .int 0, .ref 19, .ref 49, .ref 50, .ref 51, .ref 52, .ref 54])), some (kc_49), some (kc_50), some (.inl (3, 5, .inr (.inr (.inr (.inr (fun _ => none)))))), some (kc_52), some (kc_53), some (kc_54), some (kc_55), some (kc_56), some (kc_57)]) rfl rfl rfl) ?_
    refine xv_aq (i := 47) (j := 52) (y := 0) rfl rfl rfl rfl rfl rfl (by omega) (by omega) rfl ?_
    refine xv_go rfl (by rfl) ?_
    refine xv_go rfl (by rfl) ?_
    refine xv_go rfl (by rfl) ?_
    refine xv_go rfl (by rfl) ?_
    refine xv_go rfl (by rfl) ?_
    refine xv_go rfl (by rfl) ?_
    refine xv_gf (i := 44) rfl rfl rfl rfl rfl ?_
    refine xv_go rfl (by rfl) ?_
    refine xv_nw (a := 58) rfl rfl ?_
    refine xv_go rfl (by rfl) ?_
    refine xv_call rfl (iM_Ve _ (i := 54) (a := 58) (l' := [c4, c5, c6, c7, c8, c9, c10, c11, c12, c13, c14, c15, c16, c17, c18, c19, c20, c21, c22, c23, c24, c25, c26, c27, c28, c29, c30, c31, c32, c33, c34, c35, c36, c37, c38, c39, c40, c41, c42, c43, c44, c45, c46, c47, some (.inr (6, [.int 0, .int 0, .ref 19, .ref 49, .ref 50, .ref 51, .ref 52, .ref 54])), some (kc_49), some (kc_50), some (.inl (3, 5, .inr (.inr (.inr (.inr (va_up (fun _ => none) 0 (some 56))))))), some (kc_52), some (kc_53), some (kc_54), some (kc_55), some (kc_56), some (kc_57), some (kc_58), some (kc_59)]) rfl rfl rfl) ?_
    refine xv_aq (i := 47) (j := 54) (y := 1) rfl rfl rfl rfl rfl rfl (by omega) (by omega) rfl ?_
    refine xv_go rfl (by rfl) ?_
    refine xv_go rfl (by rfl) ?_
    refine xv_go rfl (by rfl) ?_
    refine xv_go rfl (by rfl) ?_
    refine xv_go rfl (by rfl) ?_
    refine xv_go rfl (by rfl) ?_
    refine xv_gf (i := 44) rfl rfl rfl rfl rfl ?_
    refine xv_go rfl (by rfl) ?_
    refine xv_nw (a := 60) rfl rfl ?_
    refine xv_go rfl (by rfl) ?_
    refine xv_call rfl (iM_Ve _ (i := 56) (a := 60) (l' := [c4, c5, c6, c7, c8, c9, c10, c11, c12, c13, c14, c15, c16, c17, c18, c19, c20, c21, c22, c23, c24, c25, c26, c27, c28, c29, c30, c31, c32, c33, c34, c35, c36, c37, c38, c39, c40, c41, c42, c43, c44, c45, c46, c47, some (.inr (6, [.int 0, .int 0, .ref 19, .ref 49, .ref 50, .ref 51, .ref 52, .ref 54])), some (kc_49), some (kc_50), some (.inl (3, 5, .inr (.inr (.inr (.inr (va_up (va_up (fun _ => none) 0 (some 56)) 1 (some 58))))))), some (kc_52), some (kc_53), some (kc_54), some (kc_55), some (kc_56), some (kc_57), some (kc_58), some (kc_59), some (kc_60), some (kc_61)]) rfl rfl rfl) ?_
    refine xv_aq (i := 47) (j := 56) (y := 2) rfl rfl rfl rfl rfl rfl (by omega) (by omega) rfl ?_
    refine xv_go rfl (by rfl) ?_
    refine xv_go rfl (by rfl) ?_
    refine xv_go rfl (by rfl) ?_
    refine xv_go rfl (by rfl) ?_
    refine xv_go rfl (by rfl) ?_
    refine xv_go rfl (by rfl) ?_
    refine xv_gf (i := 44) rfl rfl rfl rfl rfl ?_
    refine xv_go rfl (by rfl) ?_
    refine xv_nw (a := 62) rfl rfl ?_
    refine xv_go rfl (by rfl) ?_
    refine xv_call rfl (iM_Ve _ (i := 58) (a := 62) (l' := [c4, c5, c6, c7, c8, c9, c10, c11, c12, c13, c14, c15, c16, c17, c18, c19, c20, c21, c22, c23, c24, c25, c26, c27, c28, c29, c30, c31, c32, c33, c34, c35, c36, c37, c38, c39, c40, c41, c42, c43, c44, c45, c46, c47, some (.inr (6, [.int 0, .int 0, .ref 19, .ref 49, .ref 50, .ref 51, .ref 52, .ref 54])), some (kc_49), some (kc_50), some (.inl (3, 5, .inr (.inr (.inr (.inr (va_up (va_up (va_up (fun _ => none) 0 (some 56)) 1 (some 58)) 2 (some 60))))))), some (kc_52), some (kc_53), some (kc_54), some (kc_55), some (kc_56), some (kc_57), some (kc_58), some (kc_59), some (kc_60), some (kc_61), some (kc_62), some (kc_63)]) rfl rfl rfl) ?_
    refine xv_aq (i := 47) (j := 58) (y := 3) rfl rfl rfl rfl rfl rfl (by omega) (by omega) rfl ?_
    refine xv_go rfl (by rfl) ?_
    refine xv_go rfl (by rfl) ?_
    refine xv_go rfl (by rfl) ?_
    refine xv_go rfl (by rfl) ?_
    refine xv_go rfl (by rfl) ?_
    refine xv_go rfl (by rfl) ?_
    refine xv_gf (i := 44) rfl rfl rfl rfl rfl ?_
    refine xv_go rfl (by rfl) ?_
    refine xv_nw (a := 64) rfl rfl ?_
    refine xv_go rfl (by rfl) ?_
    refine xv_call rfl (iM_Ve _ (i := 60) (a := 64) (l' := [c4, c5, c6, c7, c8, c9, c10, c11, c12, c13, c14, c15, c16, c17, c18, c19, c20, c21, c22, c23, c24, c25, c26, c27, c28, c29, c30, c31, c32, c33, c34, c35, c36, c37, c38, c39, c40, c41, c42, c43, c44, c45, c46, c47, some (.inr (6, [.int 0, .int 0, .ref 19, .ref 49, .ref 50, .ref 51, .ref 52, .ref 54])), some (kc_49), some (kc_50), some (.inl (3, 5, .inr (.inr (.inr (.inr (va_up (va_up (va_up (va_up (fun _ => none) 0 (some 56)) 1 (some 58)) 2 (some 60)) 3 (some 62))))))), some (kc_52), some (kc_53), some (kc_54), some (kc_55), some (kc_56), some (kc_57), some (kc_58), some (kc_59), some (kc_60), some (kc_61), some (kc_62), some (kc_63), some (kc_64), some (kc_65)]) rfl rfl rfl) ?_
    refine xv_aq (i := 47) (j := 60) (y := 4) rfl rfl rfl rfl rfl rfl (by omega) (by omega) rfl ?_
    refine xv_go rfl (by rfl) ?_
    refine xv_go rfl (by rfl) ?_
    refine xv_go rfl (by rfl) ?_
    refine xv_go rfl (by rfl) ?_
    refine xv_go rfl (by rfl) ?_
    refine xv_ret rfl ?_
    refine congrArg (fun t => M_ t b _) ?_
    omega
  obtain ⟨mo, k1, rfl⟩ := k
  exact ⟨e_Wk_init, rfl, Nat.le_of_ble_eq_true rfl, k1⟩
theorem iM_Wr (d : Nat) {s : Nat} {b : Nat → Option j_C} {c4 c5 c6 c7 c8 c9 c10 c11 c12 c13 c14 c15 c16 c17 c18 c19 c20 c21 c22 c23 c24 c25 c26 c27 c28 c29 c30 c31 c32 c33 c34 c35 c36 c37 c38 c39 c40 c41 c42 c43 c44 c45 c46 c47 c48 c49 c50 c51 c52 c53 c54 c55 c56 c57 c58 c59 c60 c61 c62 c63 c64 c65 : Option j_C} : j_ex tb (d + 4) m_Wr_init [.ref 66, .ref 9] (M_ s b [c4, c5, c6, c7, c8, c9, c10, c11, c12, c13, c14, c15, c16, c17, c18, c19, c20, c21, c22, c23, c24, c25, c26, c27, c28, c29, c30, c31, c32, c33, c34, c35, c36, c37, c38, c39, c40, c41, c42, c43, c44, c45, c46, c47, c48, c49, c50, c51, c52, c53, c54, c55, c56, c57, c58, c59, c60, c61, c62, c63, c64, c65, some (.inr (7, [.int 0, .long 0, .null, .null, .null]))]) (.inl none) (M_ (s + 66) b [c4, c5, c6, c7, c8, c9, c10, c11, c12, c13, c14, c15, c16, c17, c18, c19, c20, c21, c22, c23, c24, c25, c26, c27, c28, c29, c30, c31, c32, c33, c34, c35, c36, c37, c38, c39, c40, c41, c42, c43, c44, c45, c46, c47, c48, c49, c50, c51, c52, c53, c54, c55, c56, c57, c58, c59, c60, c61, c62, c63, c64, c65, some (kc_66), some (kc_67), some (kc_68)]) := by
  have k : Xv (d + 4) (j_ex tb (d + 3)) (j_tab q_Wr_init) [] (.inl none) (fun mo => mo = M_ (s + 66) b [c4, c5, c6, c7, c8, c9, c10, c11, c12, c13, c14, c15, c16, c17, c18, c19, c20, c21, c22, c23, c24, c25, c26, c27, c28, c29, c30, c31, c32, c33, c34, c35, c36, c37, c38, c39, c40, c41, c42, c43, c44, c45, c46, c47, c48, c49, c50, c51, c52, c53, c54, c55, c56, c57, c58, c59, c60, c61, c62, c63, c64, c65, some (kc_66), some (kc_67), some (kc_68)]) 0 (j_en 2 [.ref 66, .ref 9]) [] (M_ s b [c4, c5, c6, c7, c8, c9, c10, c11, c12, c13, c14, c15, c16, c17, c18, c19, c20, c21, c22, c23, c24, c25, c26, c27, c28, c29, c30, c31, c32, c33, c34, c35, c36, c37, c38, c39, c40, c41, c42, c43, c44, c45, c46, c47, c48, c49, c50, c51, c52, c53, c54, c55, c56, c57, c58, c59, c60, c61, c62, c63, c64, c65, some (.inr (7, [.int 0, .long 0, .null, .null, .null]))]) := by
    refine xv_go rfl (by rfl) ?_
    refine xv_go rfl (by rfl) ?_
    refine xv_go rfl (by rfl) ?_
    refine xv_nw (a := 67) rfl rfl ?_
    refine xv_go rfl (by rfl) ?_
    refine xv_call rfl (iM_Al _ (i := 63) (a := 67) (l' := [c4, c5, c6, c7, c8, c9, c10, c11, c12, c13, c14, c15, c16, c17, c18, c19, c20, c21, c22, c23, c24, c25, c26, c27, c28, c29, c30, c31, c32, c33, c34, c35, c36, c37, c38, c39, c40, c41, c42, c43, c44, c45, c46, c47, c48, c49, c50, c51, c52, c53, c54, c55, c56, c57, c58, c59, c60, c61, c62, c63, c64, c65, some (.inr (7, [.int 0, .long 0, .null, .null, .null])), some (kc_67)]) rfl rfl rfl) ?_
    refine xv_pf (i := 62) rfl rfl rfl rfl rfl rfl rfl ?_
    refine xv_go rfl (by rfl) ?_
    refine xv_go rfl (by rfl) ?_
    refine xv_na (m := 63) (a := 68) rfl (by omega) rfl ?_
    refine xv_pf (i := 62) rfl rfl rfl rfl rfl rfl rfl ?_
    refine xv_go rfl (by rfl) ?_
    refine xv_go rfl (by rfl) ?_
    refine xv_pf (i := 62) rfl rfl rfl rfl rfl rfl rfl ?_
    refine xv_ret rfl ?_
    refine congrArg (fun t => M_ t b _) ?_
    omega
  obtain ⟨mo, k1, rfl⟩ := k
  exact ⟨e_Wr_init, rfl, Nat.le_of_ble_eq_true rfl, k1⟩
theorem iM_Mo (d : Nat) {s : Nat} {b : Nat → Option j_C} {c4 c5 c6 c7 c8 c9 c10 c11 c12 c13 c14 c15 c16 c17 c18 c19 c20 c21 c22 c23 c24 c25 c26 c27 c28 c29 c30 c31 c32 c33 c34 c35 c36 c37 c38 c39 c40 c41 c42 c43 c44 c45 c46 c47 c48 c49 c50 c51 c52 c53 c54 c55 c56 c57 c58 c59 c60 c61 c62 c63 c64 c65 c66 c67 c68 : Option j_C} : j_ex tb (d + 1) m_Mo_init [.ref 69] (M_ s b [c4, c5, c6, c7, c8, c9, c10, c11, c12, c13, c14, c15, c16, c17, c18, c19, c20, c21, c22, c23, c24, c25, c26, c27, c28, c29, c30, c31, c32, c33, c34, c35, c36, c37, c38, c39, c40, c41, c42, c43, c44, c45, c46, c47, c48, c49, c50, c51, c52, c53, c54, c55, c56, c57, c58, c59, c60, c61, c62, c63, c64, c65, c66, c67, c68, some (.inr (11, [.int 0, .int 0, .int 0, .int 0, .int 0, .null, .null, .null, .null, .null, .null, .null]))]) (.inl none) (M_ (s + 21576) b [c4, c5, c6, c7, c8, c9, c10, c11, c12, c13, c14, c15, c16, c17, c18, c19, c20, c21, c22, c23, c24, c25, c26, c27, c28, c29, c30, c31, c32, c33, c34, c35, c36, c37, c38, c39, c40, c41, c42, c43, c44, c45, c46, c47, c48, c49, c50, c51, c52, c53, c54, c55, c56, c57, c58, c59, c60, c61, c62, c63, c64, c65, c66, c67, c68, some (kc_69), some (kc_70), some (kc_71), some (kc_72), some (kc_73), some (kc_74), some (kc_75), some (kc_76)]) := by
  have k : Xv (d + 1) (j_ex tb (d + 0)) (j_tab q_Mo_init) [] (.inl none) (fun mo => mo = M_ (s + 21576) b [c4, c5, c6, c7, c8, c9, c10, c11, c12, c13, c14, c15, c16, c17, c18, c19, c20, c21, c22, c23, c24, c25, c26, c27, c28, c29, c30, c31, c32, c33, c34, c35, c36, c37, c38, c39, c40, c41, c42, c43, c44, c45, c46, c47, c48, c49, c50, c51, c52, c53, c54, c55, c56, c57, c58, c59, c60, c61, c62, c63, c64, c65, c66, c67, c68, some (kc_69), some (kc_70), some (kc_71), some (kc_72), some (kc_73), some (kc_74), some (kc_75), some (kc_76)]) 0 (j_en 1 [.ref 69]) [] (M_ s b [c4, c5, c6, c7, c8, c9, c10, c11, c12, c13, c14, c15, c16, c17, c18, c19, c20, c21, c22, c23, c24, c25, c26, c27, c28, c29, c30, c31, c32, c33, c34, c35, c36, c37, c38, c39, c40, c41, c42, c43, c44, c45, c46, c47, c48, c49, c50, c51, c52, c53, c54, c55, c56, c57, c58, c59, c60, c61, c62, c63, c64, c65, c66, c67, c68, some (.inr (11, [.int 0, .int 0, .int 0, .int 0, .int 0, .null, .null, .null, .null, .null, .null, .null]))]) := by
    refine xv_go rfl (by rfl) ?_
    refine xv_go rfl (by rfl) ?_
    refine xv_go rfl (by rfl) ?_
    refine xv_go rfl (by rfl) ?_
    refine xv_na (m := 60) (a := 70) rfl (by omega) rfl ?_
    refine xv_pf (i := 65) (l' := [c4, c5, c6, c7, c8, c9, c10, c11, c12, c13, c14, c15, c16, c17, c18, c19, c20, c21, c22, c23, c24, c25, c26, c27, c28, c29, c30, c31, c32, c33, c34, c35, c36, c37, c38, c39, c40, c41, c42, c43, c44, c45, c46, c47, c48, c49, c50, c51, c52, c53, c54, c55, c56, c57, c58, c59, c60, c61, c62, c63, c64, c65, c66, c67, c68, some (.inr (11, [.int 0, .int 0, .int 0, .int 0, .int 0, .ref 70, .null, .null, .null, .null, .null, .null])), some (kc_70)]) rfl rfl rfl rfl rfl rfl rfl ?_
    refine xv_go rfl (by rfl) ?_
    refine xv_go rfl (by rfl) ?_
    refine xv_na (m := 20000) (a := 71) rfl (by omega) rfl ?_
    refine xv_pf (i := 65) (l' := [c4, c5, c6, c7, c8, c9, c10, c11, c12, c13, c14, c15, c16, c17, c18, c19, c20, c21, c22, c23, c24, c25, c26, c27, c28, c29, c30, c31, c32, c33, c34, c35, c36, c37, c38, c39, c40, c41, c42, c43, c44, c45, c46, c47, c48, c49, c50, c51, c52, c53, c54, c55, c56, c57, c58, c59, c60, c61, c62, c63, c64, c65, c66, c67, c68, some (.inr (11, [.int 0, .int 0, .int 0, .int 0, .int 0, .ref 70, .ref 71, .null, .null, .null, .null, .null])), some (kc_70), some (kc_71)]) rfl rfl rfl rfl rfl rfl rfl ?_
    refine xv_go rfl (by rfl) ?_
    refine xv_go rfl (by rfl) ?_
    refine xv_na (m := 500) (a := 72) rfl (by omega) rfl ?_
    refine xv_pf (i := 65) (l' := [c4, c5, c6, c7, c8, c9, c10, c11, c12, c13, c14, c15, c16, c17, c18, c19, c20, c21, c22, c23, c24, c25, c26, c27, c28, c29, c30, c31, c32, c33, c34, c35, c36, c37, c38, c39, c40, c41, c42, c43, c44, c45, c46, c47, c48, c49, c50, c51, c52, c53, c54, c55, c56, c57, c58, c59, c60, c61, c62, c63, c64, c65, c66, c67, c68, some (.inr (11, [.int 0, .int 0, .int 0, .int 0, .int 0, .ref 70, .ref 71, .ref 72, .null, .null, .null, .null])), some (kc_70), some (kc_71), some (kc_72)]) rfl rfl rfl rfl rfl rfl rfl ?_
    refine xv_go rfl (by rfl) ?_
    refine xv_go rfl (by rfl) ?_
    refine xv_na (m := 500) (a := 73) rfl (by omega) rfl ?_
    refine xv_pf (i := 65) (l' := [c4, c5, c6, c7, c8, c9, c10, c11, c12, c13, c14, c15, c16, c17, c18, c19, c20, c21, c22, c23, c24, c25, c26, c27, c28, c29, c30, c31, c32, c33, c34, c35, c36, c37, c38, c39, c40, c41, c42, c43, c44, c45, c46, c47, c48, c49, c50, c51, c52, c53, c54, c55, c56, c57, c58, c59, c60, c61, c62, c63, c64, c65, c66, c67, c68, some (.inr (11, [.int 0, .int 0, .int 0, .int 0, .int 0, .ref 70, .ref 71, .ref 72, .ref 73, .null, .null, .null])), some (kc_70), some (kc_71), some (kc_72), some (kc_73)]) rfl rfl rfl rfl rfl rfl rfl ?_
    refine xv_go rfl (by rfl) ?_
    refine xv_go rfl (by rfl) ?_
    refine xv_na (m := 500) (a := 74) rfl (by omega) rfl ?_
    refine xv_pf (i := 65) (l' := [c4, c5, c6, c7, c8, c9, c10, c11, c12, c13, c14, c15, c16, c17, c18, c19, c20, c21, c22, c23, c24, c25, c26, c27, c28, c29, c30, c31, c32, c33, c34, c35, c36, c37, c38, c39, c40, c41, c42, c43, c44, c45, c46, c47, c48, c49, c50, c51, c52, c53, c54, c55, c56, c57, c58, c59, c60, c61, c62, c63, c64, c65, c66, c67, c68, some (.inr (11, [.int 0, .int 0, .int 0, .int 0, .int 0, .ref 70, .ref 71, .ref 72, .ref 73, .ref 74, .null, .null])), some (kc_70), some (kc_71), some (kc_72), some (kc_73), some (kc_74)]) rfl rfl rfl rfl rfl rfl rfl ?_
    refine xv_go rfl (by rfl) ?_
    refine xv_go rfl (by rfl) ?_
    refine xv_na (m := 8) (a := 75) rfl (by omega) rfl ?_
    refine xv_pf (i := 65) (l' := [c4, c5, c6, c7, c8, c9, c10, c11, c12, c13, c14, c15, c16, c17, c18, c19, c20, c21, c22, c23, c24, c25, c26, c27, c28, c29, c30, c31, c32, c33, c34, c35, c36, c37, c38, c39, c40, c41, c42, c43, c44, c45, c46, c47, c48, c49, c50, c51, c52, c53, c54, c55, c56, c57, c58, c59, c60, c61, c62, c63, c64, c65, c66, c67, c68, some (.inr (11, [.int 0, .int 0, .int 0, .int 0, .int 0, .ref 70, .ref 71, .ref 72, .ref 73, .ref 74, .ref 75, .null])), some (kc_70), some (kc_71), some (kc_72), some (kc_73), some (kc_74), some (kc_75)]) rfl rfl rfl rfl rfl rfl rfl ?_
    refine xv_go rfl (by rfl) ?_
    refine xv_go rfl (by rfl) ?_
    refine xv_na (m := 8) (a := 76) rfl (by omega) rfl ?_
    refine xv_pf (i := 65) (l' := [c4, c5, c6, c7, c8, c9, c10, c11, c12, c13, c14, c15, c16, c17, c18, c19, c20, c21, c22, c23, c24, c25, c26, c27, c28, c29, c30, c31, c32, c33, c34, c35, c36, c37, c38, c39, c40, c41, c42, c43, c44, c45, c46, c47, c48, c49, c50, c51, c52, c53, c54, c55, c56, c57, c58, c59, c60, c61, c62, c63, c64, c65, c66, c67, c68, some (.inr (11, [.int 0, .int 0, .int 0, .int 0, .int 0, .ref 70, .ref 71, .ref 72, .ref 73, .ref 74, .ref 75, .ref 76])), some (kc_70), some (kc_71), some (kc_72), some (kc_73), some (kc_74), some (kc_75), some (kc_76)]) rfl rfl rfl rfl rfl rfl rfl ?_
    refine xv_go rfl (by rfl) ?_
    refine xv_go rfl (by rfl) ?_
    refine xv_pf (i := 65) rfl rfl rfl rfl rfl rfl rfl ?_
    refine xv_ret rfl ?_
    refine congrArg (fun t => M_ t b _) ?_
    omega
  obtain ⟨mo, k1, rfl⟩ := k
  exact ⟨e_Mo_init, rfl, Nat.le_of_ble_eq_true rfl, k1⟩
theorem iM_LT (d : Nat) {s : Nat} {b : Nat → Option j_C} : j_ex tb (d + 6) m_LT_init [.ref 4] (M_ s b [some (.inr (0, [.int 0, .int 0, .null, .null, .null, .null, .null, .null, .null, .null, .null, .null, .null, .null, .null, .null]))]) (.inl none) (M_ (s + 7337) b [some (ltC 0 0), some (kc_5), some (kc_6), some (kc_7), some (kc_8), some (kc_9), some (kc_10), some (kc_11), some (kc_12), some (kc_13), some (kc_14), some (kc_15), some (kc_16), some (kc_17), some (kc_18), some (kc_19), some (kc_20), some (kc_21), some (kc_22), some (kc_23), some (kc_24), some (kc_25), some (kc_26), some (kc_27), some (kc_28), some (kc_29), some (kc_30), some (kc_31), some (kc_32), some (kc_33), some (kc_34), some (kc_35), some (kc_36), some (kc_37), some (kc_38), some (kc_39), some (kc_40), some (kc_41), some (kc_42), some (kc_43), some (kc_44), some (kc_45), some (kc_46), some (kc_47), some (kc_48), some (kc_49), some (kc_50), some (kc_51), some (kc_52), some (kc_53), some (kc_54), some (kc_55), some (kc_56), some (kc_57), some (kc_58), some (kc_59), some (kc_60), some (kc_61), some (kc_62), some (kc_63), some (kc_64), some (kc_65), some (kc_66), some (kc_67), some (kc_68)]) := by
  have k : Xv (d + 6) (j_ex tb (d + 5)) (j_tab q_LT_init) [] (.inl none) (fun mo => mo = M_ (s + 7337) b [some (ltC 0 0), some (kc_5), some (kc_6), some (kc_7), some (kc_8), some (kc_9), some (kc_10), some (kc_11), some (kc_12), some (kc_13), some (kc_14), some (kc_15), some (kc_16), some (kc_17), some (kc_18), some (kc_19), some (kc_20), some (kc_21), some (kc_22), some (kc_23), some (kc_24), some (kc_25), some (kc_26), some (kc_27), some (kc_28), some (kc_29), some (kc_30), some (kc_31), some (kc_32), some (kc_33), some (kc_34), some (kc_35), some (kc_36), some (kc_37), some (kc_38), some (kc_39), some (kc_40), some (kc_41), some (kc_42), some (kc_43), some (kc_44), some (kc_45), some (kc_46), some (kc_47), some (kc_48), some (kc_49), some (kc_50), some (kc_51), some (kc_52), some (kc_53), some (kc_54), some (kc_55), some (kc_56), some (kc_57), some (kc_58), some (kc_59), some (kc_60), some (kc_61), some (kc_62), some (kc_63), some (kc_64), some (kc_65), some (kc_66), some (kc_67), some (kc_68)]) 0 (j_en 2 [.ref 4]) [] (M_ s b [some (.inr (0, [.int 0, .int 0, .null, .null, .null, .null, .null, .null, .null, .null, .null, .null, .null, .null, .null, .null]))]) := by
    refine xv_go rfl (by rfl) ?_
    refine xv_go rfl (by rfl) ?_
    refine xv_go rfl (by rfl) ?_
    refine xv_nw (a := 5) rfl rfl ?_
    refine xv_go rfl (by rfl) ?_
    refine xv_call rfl (iM_Tp _ (i := 1) (a := 5) (l' := [some (.inr (0, [.int 0, .int 0, .null, .null, .null, .null, .null, .null, .null, .null, .null, .null, .null, .null, .null, .null])), some (kc_5), some (kc_6)]) rfl rfl rfl) ?_
    refine xv_pf (i := 0) rfl rfl rfl rfl rfl rfl rfl ?_
    refine xv_go rfl (by rfl) ?_
    refine xv_nw (a := 7) rfl rfl ?_
    refine xv_go rfl (by rfl) ?_
    refine xv_call rfl (iM_Vi _ (i := 3) (a := 7) (l' := [some (.inr (0, [.int 0, .int 0, .ref 5, .null, .null, .null, .null, .null, .null, .null, .null, .null, .null, .null, .null, .null])), some (kc_5), some (kc_6), some (kc_7), some (kc_8)]) rfl rfl rfl) ?_
    refine xv_pf (i := 0) rfl rfl rfl rfl rfl rfl rfl ?_
    refine xv_go rfl (by rfl) ?_
    refine xv_nw (a := 9) rfl rfl ?_
    refine xv_go rfl (by rfl) ?_
    refine xv_m (mem' := M_ _ b [some (.inr (0, [.int 0, .int 0, .ref 5, .ref 7, .null, .null, .null, .null, .null, .null, .null, .null, .null, .null, .null, .null])), some (kc_5), some (kc_6), some (kc_7), some (kc_8), some (.inr (3, [.int 0, .null, .null, .null, .null]))]) rfl ?_
    refine xv_call rfl (iM_Ch _) ?_
    refine xv_pf (i := 0) rfl rfl rfl rfl rfl rfl rfl ?_
    refine xv_go rfl (by rfl) ?_
    refine xv_nw (a := 14) rfl rfl ?_
    refine xv_go rfl (by rfl) ?_
    refine xv_call rfl (iM_Me _ (i := 10) (a := 14) (l' := [some (.inr (0, [.int 0, .int 0, .ref 5, .ref 7, .ref 9, .null, .null, .null, .null, .null, .null, .null, .null, .null, .null, .null])), some (kc_5), some (kc_6), some (kc_7), some (kc_8), some (kc_9), some (kc_10), some (kc_11), some (kc_12), some (kc_13), some (kc_14), some (kc_15), some (kc_16), some (kc_17)]) rfl rfl rfl) ?_
    refine xv_pf (i := 0) rfl rfl rfl rfl rfl rfl rfl ?_
    refine xv_go rfl (by rfl) ?_
    refine xv_go rfl (by rfl) ?_
    refine xv_na (m := 4) (a := 18) rfl (by omega) rfl ?_
    refine xv_pf (i := 0) rfl rfl rfl rfl rfl rfl rfl ?_
    refine xv_go rfl (by rfl) ?_
    refine xv_go rfl (by rfl) ?_
    refine xv_na (m := 5) (a := 19) rfl (by omega) rfl ?_
    refine xv_pf (i := 0) rfl rfl rfl rfl rfl rfl rfl ?_
    refine xv_go rfl (by rfl) ?_
    refine xv_nw (a := 20) rfl rfl ?_
    refine xv_go rfl (by rfl) ?_
    refine xv_call rfl (iM_Ve _ (i := 16) (a := 20) (l' := [some (.inr (0, [.int 0, .int 0, .ref 5, .ref 7, .ref 9, .ref 14, .ref 18, .ref 19, .null, .null, .null, .null, .null, .null, .null, .null])), some (kc_5), some (kc_6), some (kc_7), some (kc_8), some (kc_9), some (kc_10), some (kc_11), some (kc_12), some (kc_13), some (kc_14), some (kc_15), some (kc_16), some (kc_17), some (.inl (5, 4, .inr (.inr (.inr (.inr (fun _ => none)))))), some (.inl (4, 5, .inr (.inr (.inr (.inr (fun _ => none)))))), some (kc_20), some (kc_21)]) rfl rfl rfl) ?_
    refine xv_pf (i := 0) rfl rfl rfl rfl rfl rfl rfl ?_
    refine xv_go rfl (by rfl) ?_
    refine xv_nw (a := 22) rfl rfl ?_
    refine xv_go rfl (by rfl) ?_
    refine xv_call rfl (iM_Ve _ (i := 18) (a := 22) (l' := [some (.inr (0, [.int 0, .int 0, .ref 5, .ref 7, .ref 9, .ref 14, .ref 18, .ref 19, .null, .null, .ref 20, .null, .null, .null, .null, .null])), some (kc_5), some (kc_6), some (kc_7), some (kc_8), some (kc_9), some (kc_10), some (kc_11), some (kc_12), some (kc_13), some (kc_14), some (kc_15), some (kc_16), some (kc_17), some (.inl (5, 4, .inr (.inr (.inr (.inr (fun _ => none)))))), some (.inl (4, 5, .inr (.inr (.inr (.inr (fun _ => none)))))), some (kc_20), some (kc_21), some (kc_22), some (kc_23)]) rfl rfl rfl) ?_
    refine xv_pf (i := 0) rfl rfl rfl rfl rfl rfl rfl ?_
    refine xv_go rfl (by rfl) ?_
    refine xv_nw (a := 24) rfl rfl ?_
    refine xv_go rfl (by rfl) ?_
    refine xv_call rfl (iM_Ve _ (i := 20) (a := 24) (l' := [some (.inr (0, [.int 0, .int 0, .ref 5, .ref 7, .ref 9, .ref 14, .ref 18, .ref 19, .null, .null, .ref 20, .ref 22, .null, .null, .null, .null])), some (kc_5), some (kc_6), some (kc_7), some (kc_8), some (kc_9), some (kc_10), some (kc_11), some (kc_12), some (kc_13), some (kc_14), some (kc_15), some (kc_16), some (kc_17), some (.inl (5, 4, .inr (.inr (.inr (.inr (fun _ => none)))))), some (.inl (4, 5, .inr (.inr (.inr (.inr (fun _ => none)))))), some (kc_20), some (kc_21), some (kc_22), some (kc_23), some (kc_24), some (kc_25)]) rfl rfl rfl) ?_
    refine xv_pf (i := 0) rfl rfl rfl rfl rfl rfl rfl ?_
    refine xv_go rfl (by rfl) ?_
    refine xv_nw (a := 26) rfl rfl ?_
    refine xv_go rfl (by rfl) ?_
    refine xv_call rfl (iM_Ve _ (i := 22) (a := 26) (l' := [some (.inr (0, [.int 0, .int 0, .ref 5, .ref 7, .ref 9, .ref 14, .ref 18, .ref 19, .null, .null, .ref 20, .ref 22, .ref 24, .null, .null, .null])), some (kc_5), some (kc_6), some (kc_7), some (kc_8), some (kc_9), some (kc_10), some (kc_11), some (kc_12), some (kc_13), some (kc_14), some (kc_15), some (kc_16), some (kc_17), some (.inl (5, 4, .inr (.inr (.inr (.inr (fun _ => none)))))), some (.inl (4, 5, .inr (.inr (.inr (.inr (fun _ => none)))))), some (kc_20), some (kc_21), some (kc_22), some (kc_23), some (kc_24), some (kc_25), some (kc_26), some (kc_27)]) rfl rfl rfl) ?_
    refine xv_pf (i := 0) rfl rfl rfl rfl rfl rfl rfl ?_
    refine xv_go rfl (by rfl) ?_
    refine xv_nw (a := 28) rfl rfl ?_
    refine xv_go rfl (by rfl) ?_
    refine xv_call rfl (iM_Ve _ (i := 24) (a := 28) (l' := [some (.inr (0, [.int 0, .int 0, .ref 5, .ref 7, .ref 9, .ref 14, .ref 18, .ref 19, .null, .null, .ref 20, .ref 22, .ref 24, .ref 26, .null, .null])), some (kc_5), some (kc_6), some (kc_7), some (kc_8), some (kc_9), some (kc_10), some (kc_11), some (kc_12), some (kc_13), some (kc_14), some (kc_15), some (kc_16), some (kc_17), some (.inl (5, 4, .inr (.inr (.inr (.inr (fun _ => none)))))), some (.inl (4, 5, .inr (.inr (.inr (.inr (fun _ => none)))))), some (kc_20), some (kc_21), some (kc_22), some (kc_23), some (kc_24), some (kc_25), some (kc_26), some (kc_27), some (kc_28), some (kc_29)]) rfl rfl rfl) ?_
    refine xv_pf (i := 0) rfl rfl rfl rfl rfl rfl rfl ?_
    refine xv_go rfl (by rfl) ?_
    refine xv_nw (a := 30) rfl rfl ?_
    refine xv_go rfl (by rfl) ?_
    refine xv_call rfl (iM_Ve _ (i := 26) (a := 30) (l' := [some (.inr (0, [.int 0, .int 0, .ref 5, .ref 7, .ref 9, .ref 14, .ref 18, .ref 19, .null, .null, .ref 20, .ref 22, .ref 24, .ref 26, .ref 28, .null])), some (kc_5), some (kc_6), some (kc_7), some (kc_8), some (kc_9), some (kc_10), some (kc_11), some (kc_12), some (kc_13), some (kc_14), some (kc_15), some (kc_16), some (kc_17), some (.inl (5, 4, .inr (.inr (.inr (.inr (fun _ => none)))))), some (.inl (4, 5, .inr (.inr (.inr (.inr (fun _ => none)))))), some (kc_20), some (kc_21), some (kc_22), some (kc_23), some (kc_24), some (kc_25), some (kc_26), some (kc_27), some (kc_28), some (kc_29), some (kc_30), some (kc_31)]) rfl rfl rfl) ?_
    refine xv_pf (i := 0) rfl rfl rfl rfl rfl rfl rfl ?_
    refine xv_go rfl (by rfl) ?_
    refine xv_gf (i := 0) rfl rfl rfl rfl rfl ?_
    refine xv_go rfl (by rfl) ?_
    refine xv_go rfl (by rfl) ?_
    refine xv_gf (i := 0) rfl rfl rfl rfl rfl ?_
    refine xv_aq (i := 15) (j := 10) (y := 0) rfl rfl rfl rfl rfl rfl (by omega) (by omega) rfl ?_
    refine xv_go rfl (by rfl) ?_
    refine xv_go rfl (by rfl) ?_
    refine xv_go rfl (by rfl) ?_
    refine xv_go rfl (by rfl) ?_
    refine xv_go rfl (by rfl) ?_
    refine xv_go rfl (by rfl) ?_
    refine xv_gf (i := 0) rfl rfl rfl rfl rfl ?_
    refine xv_go rfl (by rfl) ?_
    refine xv_nw (a := 32) rfl rfl ?_
    refine xv_go rfl (by rfl) ?_
    refine xv_go rfl (by rfl) ?_
    refine xv_gf (i := 0) rfl rfl rfl rfl rfl ?_
    refine xv_call rfl (iM_Lv _ (i := 28) (a := 32) (l' := [some (.inr (0, [.int 0, .int 0, .ref 5, .ref 7, .ref 9, .ref 14, .ref 18, .ref 19, .null, .null, .ref 20, .ref 22, .ref 24, .ref 26, .ref 28, .ref 30])), some (kc_5), some (kc_6), some (kc_7), some (kc_8), some (kc_9), some (kc_10), some (kc_11), some (kc_12), some (kc_13), some (kc_14), some (kc_15), some (kc_16), some (kc_17), some (.inl (5, 4, .inr (.inr (.inr (.inr (fun _ => none)))))), some (.inl (4, 5, .inr (.inr (.inr (.inr (va_up (fun _ => none) 0 (some 14))))))), some (kc_20), some (kc_21), some (kc_22), some (kc_23), some (kc_24), some (kc_25), some (kc_26), some (kc_27), some (kc_28), some (kc_29), some (kc_30), some (kc_31), some (kc_32), some (kc_33), some (kc_34), some (kc_35)]) rfl rfl rfl) ?_
    refine xv_aq (i := 14) (j := 28) (y := 0) rfl rfl rfl rfl rfl rfl (by omega) (by omega) rfl ?_
    refine xv_go rfl (by rfl) ?_
    refine xv_gf (i := 0) rfl rfl rfl rfl rfl ?_
    refine xv_go rfl (by rfl) ?_
    refine xv_go rfl (by rfl) ?_
    refine xv_go rfl (by rfl) ?_
    refine xv_go rfl (by rfl) ?_
    refine xv_gf (i := 0) rfl rfl rfl rfl rfl ?_
    refine xv_go rfl (by rfl) ?_
    refine xv_alq (i := 14) (y := 0) (v := 32) rfl rfl rfl rfl (by omega) (by omega) rfl ?_
    refine xv_aq (i := 15) (j := 28) (y := 1) rfl rfl rfl rfl rfl rfl (by omega) (by omega) rfl ?_
    refine xv_go rfl (by rfl) ?_
    refine xv_go rfl (by rfl) ?_
    refine xv_go rfl (by rfl) ?_
    refine xv_go rfl (by rfl) ?_
    refine xv_go rfl (by rfl) ?_
    refine xv_go rfl (by rfl) ?_
    refine xv_gf (i := 0) rfl rfl rfl rfl rfl ?_
    refine xv_go rfl (by rfl) ?_
    refine xv_nw (a := 36) rfl rfl ?_
    refine xv_go rfl (by rfl) ?_
    refine xv_go rfl (by rfl) ?_
    refine xv_gf (i := 0) rfl rfl rfl rfl rfl ?_
    refine xv_call rfl (iM_Lv _ (i := 32) (a := 36) (l' := [some (.inr (0, [.int 0, .int 0, .ref 5, .ref 7, .ref 9, .ref 14, .ref 18, .ref 19, .null, .null, .ref 20, .ref 22, .ref 24, .ref 26, .ref 28, .ref 30])), some (kc_5), some (kc_6), some (kc_7), some (kc_8), some (kc_9), some (kc_10), some (kc_11), some (kc_12), some (kc_13), some (kc_14), some (kc_15), some (kc_16), some (kc_17), some (.inl (5, 4, .inr (.inr (.inr (.inr (va_up (fun _ => none) 0 (some 32))))))), some (.inl (4, 5, .inr (.inr (.inr (.inr (va_up (va_up (fun _ => none) 0 (some 14)) 1 (some 32))))))), some (kc_20), some (kc_21), some (kc_22), some (kc_23), some (kc_24), some (kc_25), some (kc_26), some (kc_27), some (kc_28), some (kc_29), some (kc_30), some (kc_31), some (kc_32), some (kc_33), some (kc_34), some (kc_35), some (kc_36), some (kc_37), some (kc_38), some (kc_39)]) rfl rfl rfl) ?_
    refine xv_aq (i := 14) (j := 32) (y := 1) rfl rfl rfl rfl rfl rfl (by omega) (by omega) rfl ?_
    refine xv_go rfl (by rfl) ?_
    refine xv_gf (i := 0) rfl rfl rfl rfl rfl ?_
    refine xv_go rfl (by rfl) ?_
    refine xv_go rfl (by rfl) ?_
    refine xv_go rfl (by rfl) ?_
    refine xv_go rfl (by rfl) ?_
    refine xv_gf (i := 0) rfl rfl rfl rfl rfl ?_
    refine xv_go rfl (by rfl) ?_
    refine xv_alq (i := 14) (y := 1) (v := 36) rfl rfl rfl rfl (by omega) (by omega) rfl ?_
    refine xv_aq (i := 15) (j := 32) (y := 2) rfl rfl rfl rfl rfl rfl (by omega) (by omega) rfl ?_
    refine xv_go rfl (by rfl) ?_
    refine xv_go rfl (by rfl) ?_
    refine xv_go rfl (by rfl) ?_
    refine xv_go rfl (by rfl) ?_
    refine xv_go rfl (by rfl) ?_
    refine xv_go rfl (by rfl) ?_
    refine xv_gf (i := 0) rfl rfl rfl rfl rfl ?_
    refine xv_go rfl (by rfl) ?_
    refine xv_nw (a := 40) rfl rfl ?_
    refine xv_go rfl (by rfl) ?_
    refine xv_go rfl (by rfl) ?_
    refine xv_gf (i := 0) rfl rfl rfl rfl rfl ?_
    refine xv_call rfl (iM_Lv _ (i := 36) (a := 40) (l' := [some (.inr (0, [.int 0, .int 0, .ref 5, .ref 7, .ref 9, .ref 14, .ref 18, .ref 19, .null, .null, .ref 20, .ref 22, .ref 24, .ref 26, .ref 28, .ref 30])), some (kc_5), some (kc_6), some (kc_7), some (kc_8), some (kc_9), some (kc_10), some (kc_11), some (kc_12), some (kc_13), some (kc_14), some (kc_15), some (kc_16), some (kc_17), some (.inl (5, 4, .inr (.inr (.inr (.inr (va_up (va_up (fun _ => none) 0 (some 32)) 1 (some 36))))))), some (.inl (4, 5, .inr (.inr (.inr (.inr (va_up (va_up (va_up (fun _ => none) 0 (some 14)) 1 (some 32)) 2 (some 36))))))), some (kc_20), some (kc_21), some (kc_22), some (kc_23), some (kc_24), some (kc_25), some (kc_26), some (kc_27), some (kc_28), some (kc_29), some (kc_30), some (kc_31), some (kc_32), some (kc_33), some (kc_34), some (kc_35), some (kc_36), some (kc_37), some (kc_38), some (kc_39), some (kc_40), some (kc_41), some (kc_42), some (kc_43)]) rfl rfl rfl) ?_
    refine xv_aq (i := 14) (j := 36) (y := 2) rfl rfl rfl rfl rfl rfl (by omega) (by omega) rfl ?_
    refine xv_go rfl (by rfl) ?_
    refine xv_gf (i := 0) rfl rfl rfl rfl rfl ?_
    refine xv_go rfl (by rfl) ?_
    refine xv_go rfl (by rfl) ?_
    refine xv_go rfl (by rfl) ?_
    refine xv_go rfl (by rfl) ?_
    refine xv_gf (i := 0) rfl rfl rfl rfl rfl ?_
    refine xv_go rfl (by rfl) ?_
    refine xv_alq (i := 14) (y := 2) (v := 40) rfl rfl rfl rfl (by omega) (by omega) rfl ?_
    refine xv_aq (i := 15) (j := 36) (y := 3) rfl rfl rfl rfl rfl rfl (by omega) (by omega) rfl ?_
    refine xv_go rfl (by rfl) ?_
    refine xv_go rfl (by rfl) ?_
    refine xv_go rfl (by rfl) ?_
    refine xv_go rfl (by rfl) ?_
    refine xv_go rfl (by rfl) ?_
    refine xv_go rfl (by rfl) ?_
    refine xv_gf (i := 0) rfl rfl rfl rfl rfl ?_
    refine xv_go rfl (by rfl) ?_
    refine xv_nw (a := 44) rfl rfl ?_
    refine xv_go rfl (by rfl) ?_
    refine xv_go rfl (by rfl) ?_
    refine xv_gf (i := 0) rfl rfl rfl rfl rfl ?_
    refine xv_call rfl (iM_Lv _ (i := 40) (a := 44) (l' := [some (.inr (0, [.int 0, .int 0, .ref 5, .ref 7, .ref 9, .ref 14, .ref 18, .ref 19, .null, .null, .ref 20, .ref 22, .ref 24, .ref 26, .ref 28, .ref 30])), some (kc_5), some (kc_6), some (kc_7), some (kc_8), some (kc_9), some (kc_10), some (kc_11), some (kc_12), some (kc_13), some (kc_14), some (kc_15), some (kc_16), some (kc_17), some (.inl (5, 4, .inr (.inr (.inr (.inr (va_up (va_up (va_up (fun _ => none) 0 (some 32)) 1 (some 36)) 2 (some 40))))))), some (.inl (4, 5, .inr (.inr (.inr (.inr (va_up (va_up (va_up (va_up (fun _ => none) 0 (some 14)) 1 (some 32)) 2 (some 36)) 3 (some 40))))))), some (kc_20), some (kc_21), some (kc_22), some (kc_23), some (kc_24), some (kc_25), some (kc_26), some (kc_27), some (kc_28), some (kc_29), some (kc_30), some (kc_31), some (kc_32), some (kc_33), some (kc_34), some (kc_35), some (kc_36), some (kc_37), some (kc_38), some (kc_39), some (kc_40), some (kc_41), some (kc_42), some (kc_43), some (kc_44), some (kc_45), some (kc_46), some (kc_47)]) rfl rfl rfl) ?_
    refine xv_aq (i := 14) (j := 40) (y := 3) rfl rfl rfl rfl rfl rfl (by omega) (by omega) rfl ?_
    refine xv_go rfl (by rfl) ?_
    refine xv_gf (i := 0) rfl rfl rfl rfl rfl ?_
    refine xv_go rfl (by rfl) ?_
    refine xv_go rfl (by rfl) ?_
    refine xv_go rfl (by rfl) ?_
    refine xv_go rfl (by rfl) ?_
    refine xv_gf (i := 0) rfl rfl rfl rfl rfl ?_
    refine xv_go rfl (by rfl) ?_
    refine xv_alq (i := 14) (y := 3) (v := 44) rfl rfl rfl rfl (by omega) (by omega) rfl ?_
    refine xv_aq (i := 15) (j := 40) (y := 4) rfl rfl rfl rfl rfl rfl (by omega) (by omega) rfl ?_
    refine xv_go rfl (by rfl) ?_
    refine xv_go rfl (by rfl) ?_
    refine xv_go rfl (by rfl) ?_
    refine xv_go rfl (by rfl) ?_
    refine xv_go rfl (by rfl) ?_
    refine xv_go rfl (by rfl) ?_
    refine xv_nw (a := 48) rfl rfl ?_
    refine xv_go rfl (by rfl) ?_
    refine xv_go rfl (by rfl) ?_
    refine xv_gf (i := 0) rfl rfl rfl rfl rfl ?_
    refine xv_m (mem' := M_ _ b [some (.inr (0, [.int 0, .int 0, .ref 5, .ref 7, .ref 9, .ref 14, .ref 18, .ref 19, .null, .null, .ref 20, .ref 22, .ref 24, .ref 26, .ref 28, .ref 30])), some (kc_5), some (kc_6), some (kc_7), some (kc_8), some (kc_9), some (kc_10), some (kc_11), some (kc_12), some (kc_13), some (kc_14), some (kc_15), some (kc_16), some (kc_17), some (.inl (5, 4, .inr (.inr (.inr (.inr (va_up (va_up (va_up (va_up (fun _ => none) 0 (some 32)) 1 (some 36)) 2 (some 40)) 3 (some 44))))))), some (.inl (4, 5, .inr (.inr (.inr (.inr (va_up (va_up (va_up (va_up (va_up (fun _ => none) 0 (some 14)) 1 (some 32)) 2 (some 36)) 3 (some 40)) 4 (some 44))))))), some (kc_20), some (kc_21), some (kc_22), some (kc_23), some (kc_24), some (kc_25), some (kc_26), some (kc_27), some (kc_28), some (kc_29), some (kc_30), some (kc_31), some (kc_32), some (kc_33), some (kc_34), some (kc_35), some (kc_36), some (kc_37), some (kc_38), some (kc_39), some (kc_40), some (kc_41), some (kc_42), some (kc_43), some (kc_44), some (kc_45), some (kc_46), some (kc_47), some (.inr (6, [.int 0, .int 0, .null, .null, .null, .null, .null, .null]))]) rfl ?_
    refine xv_call rfl (iM_Wk _) ?_
    refine xv_pf (i := 0) rfl rfl rfl rfl rfl rfl rfl ?_
    refine xv_go rfl (by rfl) ?_
    refine xv_nw (a := 66) rfl rfl ?_
    refine xv_go rfl (by rfl) ?_
    refine xv_go rfl (by rfl) ?_
    refine xv_gf (i := 0) rfl rfl rfl rfl rfl ?_
    refine xv_m (mem' := M_ _ b [some (.inr (0, [.int 0, .int 0, .ref 5, .ref 7, .ref 9, .ref 14, .ref 18, .ref 19, .ref 48, .null, .ref 20, .ref 22, .ref 24, .ref 26, .ref 28, .ref 30])), some (kc_5), some (kc_6), some (kc_7), some (kc_8), some (kc_9), some (kc_10), some (kc_11), some (kc_12), some (kc_13), some (kc_14), some (kc_15), some (kc_16), some (kc_17), some (.inl (5, 4, .inr (.inr (.inr (.inr (va_up (va_up (va_up (va_up (fun _ => none) 0 (some 32)) 1 (some 36)) 2 (some 40)) 3 (some 44))))))), some (.inl (4, 5, .inr (.inr (.inr (.inr (va_up (va_up (va_up (va_up (va_up (fun _ => none) 0 (some 14)) 1 (some 32)) 2 (some 36)) 3 (some 40)) 4 (some 44))))))), some (kc_20), some (kc_21), some (kc_22), some (kc_23), some (kc_24), some (kc_25), some (kc_26), some (kc_27), some (kc_28), some (kc_29), some (kc_30), some (kc_31), some (kc_32), some (kc_33), some (kc_34), some (kc_35), some (kc_36), some (kc_37), some (kc_38), some (kc_39), some (kc_40), some (kc_41), some (kc_42), some (kc_43), some (kc_44), some (kc_45), some (kc_46), some (kc_47), some (kc_48), some (kc_49), some (kc_50), some (kc_51), some (kc_52), some (kc_53), some (kc_54), some (kc_55), some (kc_56), some (kc_57), some (kc_58), some (kc_59), some (kc_60), some (kc_61), some (kc_62), some (kc_63), some (kc_64), some (kc_65), some (.inr (7, [.int 0, .long 0, .null, .null, .null]))]) rfl ?_
    refine xv_call rfl (iM_Wr _) ?_
    refine xv_pf (i := 0) rfl rfl rfl rfl rfl rfl rfl ?_
    refine xv_ret rfl ?_
    refine congrArg (fun t => M_ t b _) ?_
    omega
  obtain ⟨mo, k1, rfl⟩ := k
  exact ⟨e_LT_init, rfl, Nat.le_of_ble_eq_true rfl, k1⟩
