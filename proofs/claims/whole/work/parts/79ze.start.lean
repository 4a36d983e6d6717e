/-! THE LAW: its loop, its start (own text) -/
set_option maxRecDepth 100000 in
theorem law_loop (d : Nat) {Ls : Nat} {xs : Nat → Int32} (hLs : Ls ≤ 3072) : ∀ (k n : Nat) (mem : j_M) (x5 x6 x7 : Option Value), n + k = 512 → Gs Ls xs mem n →
    ∃ mo, j_ev (d + 31) (j_ex tb (d + 30)) (j_tab q_law) [] (.inl (some (.int 1))) (mo) 23 [some (.ref 0), some (.ref 4), some (.ref 69), some (.ref 77), some (.int (nI (6 * n))), x5, x6, x7] [] mem ∧ Bnd mo := by
  intro k
  induction k with
  | zero =>
    intro n mem x5 x6 x7 hk h
    have s0 : mem.2.2 0 = some (.inl (0, Ls, .inl xs)) := by
      obtain ⟨G, P, s, sh, lv, mm, LV, J, Q, L, b, bm, at', y, fa, hcl, -⟩ := h
      exact hcl.2.2.2.2
    refine ⟨mem, ?_, Gs_bnd (by omega) h⟩
    repeat (first | refine ev_go rfl (by rfl) ?_ | refine ev_gf rfl (by assumption) (by rfl) (by rfl) ?_)
    refine ev_an rfl (by assumption) (by rfl) ?_
    repeat (first | refine ev_go rfl (by rfl) ?_ | refine ev_gf rfl (by assumption) (by rfl) (by rfl) ?_)
    refine ev_icT rfl (by
      refine decide_eq_true (Int32.lt_iff_toInt_lt.mpr ?_)
      show (nI Ls - (6 : Int32)).toInt < (nI (6 * n)).toInt
      rw [show (nI Ls - (6 : Int32)).toInt = (Ls : Int) - 6 from pk_sub_toInt (b := 6) (by omega) (by omega), nI_toInt (by omega)]
      omega) ?_
    repeat (first | refine ev_go rfl (by rfl) ?_ | refine ev_gf rfl (by assumption) (by rfl) (by rfl) ?_)
    exact j_ev.ret rfl
  | succ k ih =>
    intro n mem x5 x6 x7 hk h
    have s0 : mem.2.2 0 = some (.inl (0, Ls, .inl xs)) := by
      obtain ⟨G, P, s, sh, lv, mm, LV, J, Q, L, b, bm, at', y, fa, hcl, -⟩ := h
      exact hcl.2.2.2.2
    by_cases c : 6 * n + 6 ≤ Ls
    · have next : ∀ (m2 : j_M) (x5 x6 x7 : Option Value), Gs Ls xs m2 (n + 1) → ∃ mo, j_ev (d + 31) (j_ex tb (d + 30)) (j_tab q_law) [] (.inl (some (.int 1))) (mo) 810 [some (.ref 0), some (.ref 4), some (.ref 69), some (.ref 77), some (.int (nI (6 * n))), x5, x6, x7] [] m2 ∧ Bnd mo := by
        intro m2 x5 x6 x7 h2
        obtain ⟨mo, z1, z2⟩ := ih (n + 1) m2 x5 x6 x7 (by omega) h2
        refine ⟨mo, ?_, z2⟩
        rw [show 6 * (n + 1) = 6 * n + 6 by omega, ← nI_add (6 * n) 6] at z1
        repeat (first | exact z1 | refine ev_go rfl (by rfl) ?_ | refine ev_gf rfl (by assumption) (by rfl) (by rfl) ?_)
      have hn : n < 512 := by omega
      obtain ⟨q, hq, eq⟩ := sw16 (xs (6 * n))
      have pre : ∀ mo, j_ev (d + 31) (j_ex tb (d + 30)) (j_tab q_law) [] (.inl (some (.int 1))) (mo) 40 [some (.ref 0), some (.ref 4), some (.ref 69), some (.ref 77), some (.int (nI (6 * n))), x5, x6, x7] [.int (nI q)] mem → j_ev (d + 31) (j_ex tb (d + 30)) (j_tab q_law) [] (.inl (some (.int 1))) (mo) 23 [some (.ref 0), some (.ref 4), some (.ref 69), some (.ref 77), some (.int (nI (6 * n))), x5, x6, x7] [] mem := by
        intro mo kk
        repeat (first | refine ev_go rfl (by rfl) ?_ | refine ev_gf rfl (by assumption) (by rfl) (by rfl) ?_)
        refine ev_an rfl (by assumption) (by rfl) ?_
        repeat (first | refine ev_go rfl (by rfl) ?_ | refine ev_gf rfl (by assumption) (by rfl) (by rfl) ?_)
        refine ev_icF rfl (by
          refine decide_eq_false (fun z => ?_)
          have z : (nI Ls - (6 : Int32)).toInt < (nI (6 * n)).toInt := Int32.lt_iff_toInt_lt.mp z
          rw [show (nI Ls - (6 : Int32)).toInt = (Ls : Int) - 6 from pk_sub_toInt (b := 6) (by omega) (by omega), nI_toInt (by omega)] at z
          omega) ?_
        repeat (first | refine ev_go rfl (by rfl) ?_ | refine ev_gf rfl (by assumption) (by rfl) (by rfl) ?_)
        refine ev_aliN (i := 6 * n) rfl (by assumption) (by omega) (by omega) ?_
        refine j_ev.go rfl ?_
        refine j_ev.go rfl ?_
        refine ev_vi eq ?_
        exact kk
      have go : (∃ mo, j_ev (d + 31) (j_ex tb (d + 30)) (j_tab q_law) [] (.inl (some (.int 1))) (mo) 40 [some (.ref 0), some (.ref 4), some (.ref 69), some (.ref 77), some (.int (nI (6 * n))), x5, x6, x7] [.int (nI q)] mem ∧ Bnd mo) → ∃ mo, j_ev (d + 31) (j_ex tb (d + 30)) (j_tab q_law) [] (.inl (some (.int 1))) (mo) 23 [some (.ref 0), some (.ref 4), some (.ref 69), some (.ref 77), some (.int (nI (6 * n))), x5, x6, x7] [] mem ∧ Bnd mo := fun ⟨mo, a, b⟩ => ⟨mo, pre mo a, b⟩
      refine go ?_
      clear go pre eq
      have deflt : ∃ mo, j_ev (d + 31) (j_ex tb (d + 30)) (j_tab q_law) [] (.inl (some (.int 1))) (mo) 810 [some (.ref 0), some (.ref 4), some (.ref 69), some (.ref 77), some (.int (nI (6 * n))), x5, x6, x7] [] mem ∧ Bnd mo := by
        refine next mem x5 x6 x7 ?_
        obtain ⟨G, P, s, sh, lv, mm, LV, J, Q, L, b, bm, at', y, fa, hcl, hmd, h77, hpz⟩ := h
        exact ⟨_, _, _, _, _, _, _, _, _, _, _, _, _, _, _, hcl, hmd, h77, Pz_s hpz⟩
      have hc : q = 0 ∨ q = 1 ∨ q = 2 ∨ q = 3 ∨ q = 4 ∨ q = 5 ∨ q = 6 ∨ q = 7 ∨ q = 8 ∨ q = 9 ∨ q = 10 ∨ q = 11 ∨ q = 12 ∨ q = 13 ∨ q = 14 ∨ q = 15 := by omega
      rcases hc with rfl | rfl | rfl | rfl | rfl | rfl | rfl | rfl | rfl | rfl | rfl | rfl | rfl | rfl | rfl | rfl
      · obtain ⟨mo, z1, z2⟩ := la_feed d x5 x6 x7 hn c hLs h next
        exact ⟨mo, j_ev.go rfl z1, z2⟩
      · obtain ⟨mo, z1, z2⟩ := la_end d x5 x6 x7 hn c hLs h next
        exact ⟨mo, j_ev.go rfl z1, z2⟩
      · obtain ⟨mo, z1, z2⟩ := la_put d x5 x6 x7 hn c hLs h next
        exact ⟨mo, j_ev.go rfl z1, z2⟩
      · obtain ⟨mo, z1, z2⟩ := la_out d x5 x6 x7 hn c hLs h next
        exact ⟨mo, j_ev.go rfl z1, z2⟩
      · obtain ⟨mo, z1, z2⟩ := la_open d x5 x6 x7 hn c hLs h next
        exact ⟨mo, j_ev.go rfl z1, z2⟩
      · obtain ⟨mo, z1, z2⟩ := la_close d x5 x6 x7 hn c hLs h next
        exact ⟨mo, j_ev.go rfl z1, z2⟩
      · obtain ⟨mo, z1, z2⟩ := la_find d x5 x6 x7 hn c hLs h next
        exact ⟨mo, j_ev.go rfl z1, z2⟩
      · obtain ⟨mo, z1, z2⟩ := la_seek d x5 x6 x7 hn c hLs h next
        exact ⟨mo, j_ev.go rfl z1, z2⟩
      · obtain ⟨mo, z1, z2⟩ := la_current d x5 x6 x7 hn c hLs h next
        exact ⟨mo, j_ev.go rfl z1, z2⟩
      · obtain ⟨mo, z1, z2⟩ := la_word d x5 x6 x7 hn c hLs h next
        exact ⟨mo, j_ev.go rfl z1, z2⟩
      · obtain ⟨mo, z1, z2⟩ := la_flush d x5 x6 x7 hn c hLs h next
        exact ⟨mo, j_ev.go rfl z1, z2⟩
      · obtain ⟨mo, z1, z2⟩ := la_merge d x5 x6 x7 hn c hLs h next
        exact ⟨mo, j_ev.go rfl z1, z2⟩
      · obtain ⟨mo, z1, z2⟩ := la_check d x5 x6 x7 hn c hLs h next
        exact ⟨mo, j_ev.go rfl z1, z2⟩
      · obtain ⟨mo, z1, z2⟩ := deflt
        exact ⟨mo, j_ev.go rfl z1, z2⟩
      · obtain ⟨mo, z1, z2⟩ := deflt
        exact ⟨mo, j_ev.go rfl z1, z2⟩
      · obtain ⟨mo, z1, z2⟩ := deflt
        exact ⟨mo, j_ev.go rfl z1, z2⟩
    · refine ⟨mem, ?_, Gs_bnd (by omega) h⟩
      repeat (first | refine ev_go rfl (by rfl) ?_ | refine ev_gf rfl (by assumption) (by rfl) (by rfl) ?_)
      refine ev_an rfl (by assumption) (by rfl) ?_
      repeat (first | refine ev_go rfl (by rfl) ?_ | refine ev_gf rfl (by assumption) (by rfl) (by rfl) ?_)
      refine ev_icT rfl (by
        refine decide_eq_true (Int32.lt_iff_toInt_lt.mpr ?_)
        show (nI Ls - (6 : Int32)).toInt < (nI (6 * n)).toInt
        rw [show (nI Ls - (6 : Int32)).toInt = (Ls : Int) - 6 from pk_sub_toInt (b := 6) (by omega) (by omega), nI_toInt (by omega)]
        omega) ?_
      repeat (first | refine ev_go rfl (by rfl) ?_ | refine ev_gf rfl (by assumption) (by rfl) (by rfl) ?_)
      exact j_ev.ret rfl
/-- a run of the law that returns -/
theorem lv_of {d : Nat} {v : Option Value} {mo : j_M} {pc : Nat} {lc : j_L} {st : List Value} {mem : j_M} {D : Nat} (h : j_ev D (j_ex tb d) (j_tab q_law) [] (.inl v) mo pc lc st mem) : j_lv d (.inl v) mo pc lc st mem :=
  fun P h1 h2 h3 => h P h1 h2 h3 (fun _ _ _ _ _ _ _ _ _ _ _ _ hh _ => by cases hh) (fun _ _ _ _ _ _ _ _ _ _ _ ho => by cases ho) (fun _ _ _ _ _ _ _ _ ho _ => by cases ho)
theorem m0_M (L : Nat) (xs : Nat → Int32) : m_0 L xs = M_ 0 (m_0 L xs).2.2 [] := by
  unfold m_0 M_
  refine congrArg (fun f => ((4 : Nat), (0 : Nat), f)) ?_
  funext c
  by_cases h : c < 4
  · rw [if_pos h]
  · rw [if_neg h]
    match c, h with
    | c + 4, _ => rfl
