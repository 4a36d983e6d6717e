/-! THE LAW: its loop (written by a program of ours, /wip/whole/genlaw.py) -/
def Bnd (mo : j_M) : Prop := mo.1 ≤ 601028 ∧ mo.2.1 ≤ 7293034
theorem Gs_bnd {Ls : Nat} {xs : Nat → Int32} {mem : j_M} {n : Nat} (hn : n ≤ 512) (h : Gs Ls xs mem n) : Bnd mem := by
  obtain ⟨G, P, s, sh, lv, mm, LV, J, Q, L, b, bm, at', y, fa, hcl, hmd, h77, hpz⟩ := h
  obtain ⟨R, E, C, B, Wn, T, U, D, e, cap, -, -, -, -, -, -, ⟨h1, h2⟩, h3⟩ := hcl.1
  obtain ⟨a9, a10, a11⟩ := hpz.2.2.2.2.2.2.2.2
  have hb := nB_le B
  have c0 := h1 0 (by omega)
  have c1 := h1 1 (by omega)
  have c2 := h1 2 (by omega)
  have c3 := h1 3 (by omega)
  have s0 := Nat.mul_le_mul c0 c0
  have s1 := Nat.mul_le_mul c1 c1
  have s2 := Nat.mul_le_mul c2 c2
  have s3 := Nat.mul_le_mul c3 c3
  have s4 := Nat.mul_le_mul h2 h2
  obtain ⟨r1, r2⟩ := h3
  unfold Bnd
  constructor <;> omega
theorem sw16 (x : Int32) : ∃ q, q < 16 ∧ x &&& 15 = nI q := by
  obtain ⟨m, hm, rfl⟩ := wb_of32 x
  exact ⟨m % 16, Nat.mod_lt _ (by decide), pk_andN hm 4 (by decide)⟩
section LOOP
variable {Ls : Nat} {xs : Nat → Int32} {mem : j_M} {n : Nat}
theorem la_feed (d : Nat) (x5 x6 x7 : Option Value) (hn : n < 512) (hi : 6 * n + 6 ≤ Ls) (hLs : Ls ≤ 3072) (h : Gs Ls xs mem n) (next : ∀ (m2 : j_M) (x5 x6 x7 : Option Value), Gs Ls xs m2 (n + 1) → ∃ mo, j_ev (d + 31) (j_ex tb (d + 30)) (j_tab q_law) [] (.inl (some (.int 1))) (mo) 810 [some (.ref 0), some (.ref 4), some (.ref 69), some (.ref 77), some (.int (nI (6 * n))), x5, x6, x7] [] m2 ∧ Bnd mo) : ∃ mo, j_ev (d + 31) (j_ex tb (d + 30)) (j_tab q_law) [] (.inl (some (.int 1))) (mo) 108 [some (.ref 0), some (.ref 4), some (.ref 69), some (.ref 77), some (.int (nI (6 * n))), x5, x6, x7] [] mem ∧ Bnd mo := by
  have s0 : mem.2.2 0 = some (.inl (0, Ls, .inl xs)) := by
    obtain ⟨G, P, s, sh, lv, mm, LV, J, Q, L, b, bm, at', y, fa, hcl, -⟩ := h
    exact hcl.2.2.2.2
  have l4 : ∃ fs, mem.2.2 4 = some (.inr (0, fs)) := by
    obtain ⟨G, P, s, sh, lv, mm, LV, J, Q, L, b, bm, at', y, fa, hcl, -⟩ := h
    exact ⟨_, Sy_lt hcl.1⟩
  obtain ⟨f4, l4⟩ := l4
  obtain ⟨m1, m2, kx, bv, g, f1, f2, q1, q2, q3, q4, q5, q6, q7, q8, q9, q10⟩ := op_feed d (xs (6 * n + 1)) (xs (6 * n + 2)) (xs (6 * n + 3)) (xs (6 * n + 4)) (xs (6 * n + 5)) h
  obtain ⟨mo, z1, z2⟩ := next m2 (some (.int (nI kx))) (some (.int bv)) x7 q10
  refine ⟨mo, ?_, z2⟩
  repeat (first | refine ev_go rfl (by rfl) ?_ | refine ev_gf rfl (by assumption) (by rfl) (by rfl) ?_)
  refine ev_vi (nI_add (6 * n) 1) ?_
  refine ev_aliN (i := 6 * n + 1) rfl (by assumption) (by omega) (by omega) ?_
  repeat (first | refine ev_go rfl (by rfl) ?_ | refine ev_gf rfl (by assumption) (by rfl) (by rfl) ?_)
  refine ev_vi (nI_add (6 * n) 2) ?_
  refine ev_aliN (i := 6 * n + 2) rfl (by assumption) (by omega) (by omega) ?_
  repeat (first | refine ev_go rfl (by rfl) ?_ | refine ev_gf rfl (by assumption) (by rfl) (by rfl) ?_)
  refine ev_vi (nI_add (6 * n) 3) ?_
  refine ev_aliN (i := 6 * n + 3) rfl (by assumption) (by omega) (by omega) ?_
  repeat (first | refine ev_go rfl (by rfl) ?_ | refine ev_gf rfl (by assumption) (by rfl) (by rfl) ?_)
  refine ev_vi (nI_add (6 * n) 4) ?_
  refine ev_aliN (i := 6 * n + 4) rfl (by assumption) (by omega) (by omega) ?_
  repeat (first | refine ev_go rfl (by rfl) ?_ | refine ev_gf rfl (by assumption) (by rfl) (by rfl) ?_)
  refine ev_vi (nI_add (6 * n) 5) ?_
  refine ev_aliN (i := 6 * n + 5) rfl (by assumption) (by omega) (by omega) ?_
  repeat (first | refine ev_go rfl (by rfl) ?_ | refine ev_gf rfl (by assumption) (by rfl) (by rfl) ?_)
  refine j_ev.call rfl (q2) ?_
  repeat (first | refine ev_go rfl (by rfl) ?_ | refine ev_gf rfl (by assumption) (by rfl) (by rfl) ?_)
  refine ev_vi (nI_add (6 * n) 1) ?_
  refine ev_aliN (i := 6 * n + 1) rfl (by assumption) (by omega) (by omega) ?_
  repeat (first | refine ev_go rfl (by rfl) ?_ | refine ev_gf rfl (by assumption) (by rfl) (by rfl) ?_)
  refine ev_vi (nI_add (6 * n) 2) ?_
  refine ev_aliN (i := 6 * n + 2) rfl (by assumption) (by omega) (by omega) ?_
  repeat (first | refine ev_go rfl (by rfl) ?_ | refine ev_gf rfl (by assumption) (by rfl) (by rfl) ?_)
  refine ev_vi (nI_add (6 * n) 3) ?_
  refine ev_aliN (i := 6 * n + 3) rfl (by assumption) (by omega) (by omega) ?_
  repeat (first | refine ev_go rfl (by rfl) ?_ | refine ev_gf rfl (by assumption) (by rfl) (by rfl) ?_)
  refine ev_vi (nI_add (6 * n) 4) ?_
  refine ev_aliN (i := 6 * n + 4) rfl (by assumption) (by omega) (by omega) ?_
  repeat (first | refine ev_go rfl (by rfl) ?_ | refine ev_gf rfl (by assumption) (by rfl) (by rfl) ?_)
  refine ev_vi (nI_add (6 * n) 5) ?_
  refine ev_aliN (i := 6 * n + 5) rfl (by assumption) (by omega) (by omega) ?_
  refine ev_cv (as := [.int (xs (6 * n + 1)), .int (xs (6 * n + 2)), .int (xs (6 * n + 3)), .int (xs (6 * n + 4)), .int (xs (6 * n + 5))]) rfl rfl rfl (by assumption) (by rfl) (by rfl) (q3) ?_
  repeat (first | refine ev_go rfl (by rfl) ?_ | refine ev_gf rfl (by assumption) (by rfl) (by rfl) ?_)
  refine ev_cv (as := []) rfl rfl rfl (by assumption) (by rfl) (by rfl) (q4) ?_
  repeat (first | refine ev_go rfl (by rfl) ?_ | refine ev_gf rfl (by assumption) (by rfl) (by rfl) ?_)
  refine ev_icT rfl (by exact decide_eq_true rfl) ?_
  rcases Nat.eq_zero_or_pos kx with e | e
  · subst e
    have q9 := q9 rfl
    repeat (first | refine ev_go rfl (by rfl) ?_ | refine ev_gf rfl (by assumption) (by rfl) (by rfl) ?_)
    refine ev_aljN (i := 0) rfl (by assumption) (by omega) (by omega) ?_
    rw [q9]
    repeat (first | refine ev_go rfl (by rfl) ?_ | refine ev_gf rfl (by assumption) (by rfl) (by rfl) ?_)
    refine ev_vi (lg_self _) ?_
    repeat (first | exact z1 | refine ev_go rfl (by rfl) ?_ | refine ev_gf rfl (by assumption) (by rfl) (by rfl) ?_)
  · repeat (first | refine ev_go rfl (by rfl) ?_ | refine ev_gf rfl (by assumption) (by rfl) (by rfl) ?_)
    refine ev_ifT rfl (by exact b_ne (a := kx) (b := 0) (by omega) (by omega) (by omega)) ?_
    repeat (first | exact z1 | refine ev_go rfl (by rfl) ?_ | refine ev_gf rfl (by assumption) (by rfl) (by rfl) ?_)
theorem la_end (d : Nat) (x5 x6 x7 : Option Value) (hn : n < 512) (hi : 6 * n + 6 ≤ Ls) (hLs : Ls ≤ 3072) (h : Gs Ls xs mem n) (next : ∀ (m2 : j_M) (x5 x6 x7 : Option Value), Gs Ls xs m2 (n + 1) → ∃ mo, j_ev (d + 31) (j_ex tb (d + 30)) (j_tab q_law) [] (.inl (some (.int 1))) (mo) 810 [some (.ref 0), some (.ref 4), some (.ref 69), some (.ref 77), some (.int (nI (6 * n))), x5, x6, x7] [] m2 ∧ Bnd mo) : ∃ mo, j_ev (d + 31) (j_ex tb (d + 30)) (j_tab q_law) [] (.inl (some (.int 1))) (mo) 212 [some (.ref 0), some (.ref 4), some (.ref 69), some (.ref 77), some (.int (nI (6 * n))), x5, x6, x7] [] mem ∧ Bnd mo := by
  have s0 : mem.2.2 0 = some (.inl (0, Ls, .inl xs)) := by
    obtain ⟨G, P, s, sh, lv, mm, LV, J, Q, L, b, bm, at', y, fa, hcl, -⟩ := h
    exact hcl.2.2.2.2
  have l4 : ∃ fs, mem.2.2 4 = some (.inr (0, fs)) := by
    obtain ⟨G, P, s, sh, lv, mm, LV, J, Q, L, b, bm, at', y, fa, hcl, -⟩ := h
    exact ⟨_, Sy_lt hcl.1⟩
  obtain ⟨f4, l4⟩ := l4
  obtain ⟨m1, m2, kx, bv, g, f1, f2, q1, q2, q3, q4, q5, q6, q7, q8, q9, q10⟩ := op_end d (xs (6 * n + 1)) h
  obtain ⟨mo, z1, z2⟩ := next m2 (some (.int (nI kx))) (some (.int bv)) x7 q10
  refine ⟨mo, ?_, z2⟩
  repeat (first | refine ev_go rfl (by rfl) ?_ | refine ev_gf rfl (by assumption) (by rfl) (by rfl) ?_)
  refine ev_vi (nI_add (6 * n) 1) ?_
  refine ev_aliN (i := 6 * n + 1) rfl (by assumption) (by omega) (by omega) ?_
  repeat (first | refine ev_go rfl (by rfl) ?_ | refine ev_gf rfl (by assumption) (by rfl) (by rfl) ?_)
  refine j_ev.call rfl (q2) ?_
  repeat (first | refine ev_go rfl (by rfl) ?_ | refine ev_gf rfl (by assumption) (by rfl) (by rfl) ?_)
  refine ev_vi (nI_add (6 * n) 1) ?_
  refine ev_aliN (i := 6 * n + 1) rfl (by assumption) (by omega) (by omega) ?_
  refine ev_cv (as := [.int (xs (6 * n + 1))]) rfl rfl rfl (by assumption) (by rfl) (by rfl) (q3) ?_
  repeat (first | refine ev_go rfl (by rfl) ?_ | refine ev_gf rfl (by assumption) (by rfl) (by rfl) ?_)
  refine ev_cv (as := []) rfl rfl rfl (by assumption) (by rfl) (by rfl) (q4) ?_
  repeat (first | refine ev_go rfl (by rfl) ?_ | refine ev_gf rfl (by assumption) (by rfl) (by rfl) ?_)
  refine ev_icT rfl (by exact decide_eq_true rfl) ?_
  rcases Nat.eq_zero_or_pos kx with e | e
  · subst e
    have q9 := q9 rfl
    repeat (first | refine ev_go rfl (by rfl) ?_ | refine ev_gf rfl (by assumption) (by rfl) (by rfl) ?_)
    refine ev_aljN (i := 0) rfl (by assumption) (by omega) (by omega) ?_
    rw [q9]
    repeat (first | refine ev_go rfl (by rfl) ?_ | refine ev_gf rfl (by assumption) (by rfl) (by rfl) ?_)
    refine ev_vi (lg_self _) ?_
    repeat (first | exact z1 | refine ev_go rfl (by rfl) ?_ | refine ev_gf rfl (by assumption) (by rfl) (by rfl) ?_)
  · repeat (first | refine ev_go rfl (by rfl) ?_ | refine ev_gf rfl (by assumption) (by rfl) (by rfl) ?_)
    refine ev_ifT rfl (by exact b_ne (a := kx) (b := 0) (by omega) (by omega) (by omega)) ?_
    repeat (first | exact z1 | refine ev_go rfl (by rfl) ?_ | refine ev_gf rfl (by assumption) (by rfl) (by rfl) ?_)
theorem la_put (d : Nat) (x5 x6 x7 : Option Value) (hn : n < 512) (hi : 6 * n + 6 ≤ Ls) (hLs : Ls ≤ 3072) (h : Gs Ls xs mem n) (next : ∀ (m2 : j_M) (x5 x6 x7 : Option Value), Gs Ls xs m2 (n + 1) → ∃ mo, j_ev (d + 31) (j_ex tb (d + 30)) (j_tab q_law) [] (.inl (some (.int 1))) (mo) 810 [some (.ref 0), some (.ref 4), some (.ref 69), some (.ref 77), some (.int (nI (6 * n))), x5, x6, x7] [] m2 ∧ Bnd mo) : ∃ mo, j_ev (d + 31) (j_ex tb (d + 30)) (j_tab q_law) [] (.inl (some (.int 1))) (mo) 268 [some (.ref 0), some (.ref 4), some (.ref 69), some (.ref 77), some (.int (nI (6 * n))), x5, x6, x7] [] mem ∧ Bnd mo := by
  have s0 : mem.2.2 0 = some (.inl (0, Ls, .inl xs)) := by
    obtain ⟨G, P, s, sh, lv, mm, LV, J, Q, L, b, bm, at', y, fa, hcl, -⟩ := h
    exact hcl.2.2.2.2
  have l4 : ∃ fs, mem.2.2 4 = some (.inr (0, fs)) := by
    obtain ⟨G, P, s, sh, lv, mm, LV, J, Q, L, b, bm, at', y, fa, hcl, -⟩ := h
    exact ⟨_, Sy_lt hcl.1⟩
  obtain ⟨f4, l4⟩ := l4
  obtain ⟨m1, m2, kx, bv, g, f1, f2, q1, q2, q3, q4, q5, q6, q7, q8, q9, q10⟩ := op_put d (xs (6 * n + 1)) (xs (6 * n + 2)) hn h
  obtain ⟨mo, z1, z2⟩ := next m2 (some (.int (nI kx))) (some (.int bv)) x7 q10
  refine ⟨mo, ?_, z2⟩
  repeat (first | refine ev_go rfl (by rfl) ?_ | refine ev_gf rfl (by assumption) (by rfl) (by rfl) ?_)
  refine ev_vi (nI_add (6 * n) 1) ?_
  refine ev_aliN (i := 6 * n + 1) rfl (by assumption) (by omega) (by omega) ?_
  repeat (first | refine ev_go rfl (by rfl) ?_ | refine ev_gf rfl (by assumption) (by rfl) (by rfl) ?_)
  refine ev_vi (nI_add (6 * n) 2) ?_
  refine ev_aliN (i := 6 * n + 2) rfl (by assumption) (by omega) (by omega) ?_
  repeat (first | refine ev_go rfl (by rfl) ?_ | refine ev_gf rfl (by assumption) (by rfl) (by rfl) ?_)
  refine j_ev.call rfl (q2) ?_
  repeat (first | refine ev_go rfl (by rfl) ?_ | refine ev_gf rfl (by assumption) (by rfl) (by rfl) ?_)
  refine ev_vi (nI_add (6 * n) 1) ?_
  refine ev_aliN (i := 6 * n + 1) rfl (by assumption) (by omega) (by omega) ?_
  repeat (first | refine ev_go rfl (by rfl) ?_ | refine ev_gf rfl (by assumption) (by rfl) (by rfl) ?_)
  refine ev_vi (nI_add (6 * n) 2) ?_
  refine ev_aliN (i := 6 * n + 2) rfl (by assumption) (by omega) (by omega) ?_
  refine ev_cv (as := [.int (xs (6 * n + 1)), .int (xs (6 * n + 2))]) rfl rfl rfl (by assumption) (by rfl) (by rfl) (q3) ?_
  repeat (first | refine ev_go rfl (by rfl) ?_ | refine ev_gf rfl (by assumption) (by rfl) (by rfl) ?_)
  refine ev_cv (as := []) rfl rfl rfl (by assumption) (by rfl) (by rfl) (q4) ?_
  repeat (first | refine ev_go rfl (by rfl) ?_ | refine ev_gf rfl (by assumption) (by rfl) (by rfl) ?_)
  refine ev_icT rfl (by exact decide_eq_true rfl) ?_
  rcases Nat.eq_zero_or_pos kx with e | e
  · subst e
    have q9 := q9 rfl
    repeat (first | refine ev_go rfl (by rfl) ?_ | refine ev_gf rfl (by assumption) (by rfl) (by rfl) ?_)
    refine ev_aljN (i := 0) rfl (by assumption) (by omega) (by omega) ?_
    rw [q9]
    repeat (first | refine ev_go rfl (by rfl) ?_ | refine ev_gf rfl (by assumption) (by rfl) (by rfl) ?_)
    refine ev_vi (lg_self _) ?_
    repeat (first | exact z1 | refine ev_go rfl (by rfl) ?_ | refine ev_gf rfl (by assumption) (by rfl) (by rfl) ?_)
  · repeat (first | refine ev_go rfl (by rfl) ?_ | refine ev_gf rfl (by assumption) (by rfl) (by rfl) ?_)
    refine ev_ifT rfl (by exact b_ne (a := kx) (b := 0) (by omega) (by omega) (by omega)) ?_
    repeat (first | exact z1 | refine ev_go rfl (by rfl) ?_ | refine ev_gf rfl (by assumption) (by rfl) (by rfl) ?_)
theorem la_out (d : Nat) (x5 x6 x7 : Option Value) (hn : n < 512) (hi : 6 * n + 6 ≤ Ls) (hLs : Ls ≤ 3072) (h : Gs Ls xs mem n) (next : ∀ (m2 : j_M) (x5 x6 x7 : Option Value), Gs Ls xs m2 (n + 1) → ∃ mo, j_ev (d + 31) (j_ex tb (d + 30)) (j_tab q_law) [] (.inl (some (.int 1))) (mo) 810 [some (.ref 0), some (.ref 4), some (.ref 69), some (.ref 77), some (.int (nI (6 * n))), x5, x6, x7] [] m2 ∧ Bnd mo) : ∃ mo, j_ev (d + 31) (j_ex tb (d + 30)) (j_tab q_law) [] (.inl (some (.int 1))) (mo) 336 [some (.ref 0), some (.ref 4), some (.ref 69), some (.ref 77), some (.int (nI (6 * n))), x5, x6, x7] [] mem ∧ Bnd mo := by
  have s0 : mem.2.2 0 = some (.inl (0, Ls, .inl xs)) := by
    obtain ⟨G, P, s, sh, lv, mm, LV, J, Q, L, b, bm, at', y, fa, hcl, -⟩ := h
    exact hcl.2.2.2.2
  have l4 : ∃ fs, mem.2.2 4 = some (.inr (0, fs)) := by
    obtain ⟨G, P, s, sh, lv, mm, LV, J, Q, L, b, bm, at', y, fa, hcl, -⟩ := h
    exact ⟨_, Sy_lt hcl.1⟩
  obtain ⟨f4, l4⟩ := l4
  obtain ⟨m1, m2, kx, bv, g, f1, f2, q1, q2, q3, q4, q5, q6, q7, q8, q9, q10⟩ := op_out d hn h
  obtain ⟨mo, z1, z2⟩ := next m2 (some (.int (nI kx))) (some (.int bv)) x7 q10
  refine ⟨mo, ?_, z2⟩
  repeat (first | refine ev_go rfl (by rfl) ?_ | refine ev_gf rfl (by assumption) (by rfl) (by rfl) ?_)
  refine j_ev.call rfl (q2) ?_
  repeat (first | refine ev_go rfl (by rfl) ?_ | refine ev_gf rfl (by assumption) (by rfl) (by rfl) ?_)
  refine ev_cv (as := []) rfl rfl rfl (by assumption) (by rfl) (by rfl) (q3) ?_
  repeat (first | refine ev_go rfl (by rfl) ?_ | refine ev_gf rfl (by assumption) (by rfl) (by rfl) ?_)
  refine ev_cv (as := []) rfl rfl rfl (by assumption) (by rfl) (by rfl) (q4) ?_
  repeat (first | refine ev_go rfl (by rfl) ?_ | refine ev_gf rfl (by assumption) (by rfl) (by rfl) ?_)
  refine ev_icT rfl (by exact decide_eq_true rfl) ?_
  rcases Nat.eq_zero_or_pos kx with e | e
  · subst e
    have q9 := q9 rfl
    repeat (first | refine ev_go rfl (by rfl) ?_ | refine ev_gf rfl (by assumption) (by rfl) (by rfl) ?_)
    refine ev_aljN (i := 0) rfl (by assumption) (by omega) (by omega) ?_
    rw [q9]
    repeat (first | refine ev_go rfl (by rfl) ?_ | refine ev_gf rfl (by assumption) (by rfl) (by rfl) ?_)
    refine ev_vi (lg_self _) ?_
    repeat (first | exact z1 | refine ev_go rfl (by rfl) ?_ | refine ev_gf rfl (by assumption) (by rfl) (by rfl) ?_)
  · repeat (first | refine ev_go rfl (by rfl) ?_ | refine ev_gf rfl (by assumption) (by rfl) (by rfl) ?_)
    refine ev_ifT rfl (by exact b_ne (a := kx) (b := 0) (by omega) (by omega) (by omega)) ?_
    repeat (first | exact z1 | refine ev_go rfl (by rfl) ?_ | refine ev_gf rfl (by assumption) (by rfl) (by rfl) ?_)
theorem la_open (d : Nat) (x5 x6 x7 : Option Value) (hn : n < 512) (hi : 6 * n + 6 ≤ Ls) (hLs : Ls ≤ 3072) (h : Gs Ls xs mem n) (next : ∀ (m2 : j_M) (x5 x6 x7 : Option Value), Gs Ls xs m2 (n + 1) → ∃ mo, j_ev (d + 31) (j_ex tb (d + 30)) (j_tab q_law) [] (.inl (some (.int 1))) (mo) 810 [some (.ref 0), some (.ref 4), some (.ref 69), some (.ref 77), some (.int (nI (6 * n))), x5, x6, x7] [] m2 ∧ Bnd mo) : ∃ mo, j_ev (d + 31) (j_ex tb (d + 30)) (j_tab q_law) [] (.inl (some (.int 1))) (mo) 380 [some (.ref 0), some (.ref 4), some (.ref 69), some (.ref 77), some (.int (nI (6 * n))), x5, x6, x7] [] mem ∧ Bnd mo := by
  have s0 : mem.2.2 0 = some (.inl (0, Ls, .inl xs)) := by
    obtain ⟨G, P, s, sh, lv, mm, LV, J, Q, L, b, bm, at', y, fa, hcl, -⟩ := h
    exact hcl.2.2.2.2
  have l4 : ∃ fs, mem.2.2 4 = some (.inr (0, fs)) := by
    obtain ⟨G, P, s, sh, lv, mm, LV, J, Q, L, b, bm, at', y, fa, hcl, -⟩ := h
    exact ⟨_, Sy_lt hcl.1⟩
  obtain ⟨f4, l4⟩ := l4
  obtain ⟨m1, m2, kx, bv, g, f1, f2, q1, q2, q3, q4, q5, q6, q7, q8, q9, q10⟩ := op_open d (xs (6 * n + 1)) (by omega) h
  obtain ⟨mo, z1, z2⟩ := next m2 (some (.int (nI kx))) (some (.int bv)) x7 q10
  refine ⟨mo, ?_, z2⟩
  repeat (first | refine ev_go rfl (by rfl) ?_ | refine ev_gf rfl (by assumption) (by rfl) (by rfl) ?_)
  refine ev_vi (nI_add (6 * n) 1) ?_
  refine ev_aliN (i := 6 * n + 1) rfl (by assumption) (by omega) (by omega) ?_
  repeat (first | refine ev_go rfl (by rfl) ?_ | refine ev_gf rfl (by assumption) (by rfl) (by rfl) ?_)
  refine j_ev.call rfl (q2) ?_
  repeat (first | refine ev_go rfl (by rfl) ?_ | refine ev_gf rfl (by assumption) (by rfl) (by rfl) ?_)
  refine ev_vi (nI_add (6 * n) 1) ?_
  refine ev_aliN (i := 6 * n + 1) rfl (by assumption) (by omega) (by omega) ?_
  refine ev_cv (as := [.int (xs (6 * n + 1))]) rfl rfl rfl (by assumption) (by rfl) (by rfl) (q3) ?_
  repeat (first | refine ev_go rfl (by rfl) ?_ | refine ev_gf rfl (by assumption) (by rfl) (by rfl) ?_)
  refine ev_cv (as := []) rfl rfl rfl (by assumption) (by rfl) (by rfl) (q4) ?_
  repeat (first | refine ev_go rfl (by rfl) ?_ | refine ev_gf rfl (by assumption) (by rfl) (by rfl) ?_)
  refine ev_icT rfl (by exact decide_eq_true rfl) ?_
  rcases Nat.eq_zero_or_pos kx with e | e
  · subst e
    have q9 := q9 rfl
    repeat (first | refine ev_go rfl (by rfl) ?_ | refine ev_gf rfl (by assumption) (by rfl) (by rfl) ?_)
    refine ev_aljN (i := 0) rfl (by assumption) (by omega) (by omega) ?_
    rw [q9]
    repeat (first | refine ev_go rfl (by rfl) ?_ | refine ev_gf rfl (by assumption) (by rfl) (by rfl) ?_)
    refine ev_vi (lg_self _) ?_
    repeat (first | exact z1 | refine ev_go rfl (by rfl) ?_ | refine ev_gf rfl (by assumption) (by rfl) (by rfl) ?_)
  · repeat (first | refine ev_go rfl (by rfl) ?_ | refine ev_gf rfl (by assumption) (by rfl) (by rfl) ?_)
    refine ev_ifT rfl (by exact b_ne (a := kx) (b := 0) (by omega) (by omega) (by omega)) ?_
    repeat (first | exact z1 | refine ev_go rfl (by rfl) ?_ | refine ev_gf rfl (by assumption) (by rfl) (by rfl) ?_)
theorem la_close (d : Nat) (x5 x6 x7 : Option Value) (hn : n < 512) (hi : 6 * n + 6 ≤ Ls) (hLs : Ls ≤ 3072) (h : Gs Ls xs mem n) (next : ∀ (m2 : j_M) (x5 x6 x7 : Option Value), Gs Ls xs m2 (n + 1) → ∃ mo, j_ev (d + 31) (j_ex tb (d + 30)) (j_tab q_law) [] (.inl (some (.int 1))) (mo) 810 [some (.ref 0), some (.ref 4), some (.ref 69), some (.ref 77), some (.int (nI (6 * n))), x5, x6, x7] [] m2 ∧ Bnd mo) : ∃ mo, j_ev (d + 31) (j_ex tb (d + 30)) (j_tab q_law) [] (.inl (some (.int 1))) (mo) 436 [some (.ref 0), some (.ref 4), some (.ref 69), some (.ref 77), some (.int (nI (6 * n))), x5, x6, x7] [] mem ∧ Bnd mo := by
  have s0 : mem.2.2 0 = some (.inl (0, Ls, .inl xs)) := by
    obtain ⟨G, P, s, sh, lv, mm, LV, J, Q, L, b, bm, at', y, fa, hcl, -⟩ := h
    exact hcl.2.2.2.2
  have l4 : ∃ fs, mem.2.2 4 = some (.inr (0, fs)) := by
    obtain ⟨G, P, s, sh, lv, mm, LV, J, Q, L, b, bm, at', y, fa, hcl, -⟩ := h
    exact ⟨_, Sy_lt hcl.1⟩
  obtain ⟨f4, l4⟩ := l4
  obtain ⟨m1, m2, kx, bv, g, f1, f2, q1, q2, q3, q4, q5, q6, q7, q8, q9, q10⟩ := op_close d (xs (6 * n + 1)) (by omega) h
  obtain ⟨mo, z1, z2⟩ := next m2 (some (.int (nI kx))) (some (.int bv)) x7 q10
  refine ⟨mo, ?_, z2⟩
  repeat (first | refine ev_go rfl (by rfl) ?_ | refine ev_gf rfl (by assumption) (by rfl) (by rfl) ?_)
  refine ev_vi (nI_add (6 * n) 1) ?_
  refine ev_aliN (i := 6 * n + 1) rfl (by assumption) (by omega) (by omega) ?_
  repeat (first | refine ev_go rfl (by rfl) ?_ | refine ev_gf rfl (by assumption) (by rfl) (by rfl) ?_)
  refine j_ev.call rfl (q2) ?_
  repeat (first | refine ev_go rfl (by rfl) ?_ | refine ev_gf rfl (by assumption) (by rfl) (by rfl) ?_)
  refine ev_vi (nI_add (6 * n) 1) ?_
  refine ev_aliN (i := 6 * n + 1) rfl (by assumption) (by omega) (by omega) ?_
  refine ev_cv (as := [.int (xs (6 * n + 1))]) rfl rfl rfl (by assumption) (by rfl) (by rfl) (q3) ?_
  repeat (first | refine ev_go rfl (by rfl) ?_ | refine ev_gf rfl (by assumption) (by rfl) (by rfl) ?_)
  refine ev_cv (as := []) rfl rfl rfl (by assumption) (by rfl) (by rfl) (q4) ?_
  repeat (first | refine ev_go rfl (by rfl) ?_ | refine ev_gf rfl (by assumption) (by rfl) (by rfl) ?_)
  refine ev_icT rfl (by exact decide_eq_true rfl) ?_
  rcases Nat.eq_zero_or_pos kx with e | e
  · subst e
    have q9 := q9 rfl
    repeat (first | refine ev_go rfl (by rfl) ?_ | refine ev_gf rfl (by assumption) (by rfl) (by rfl) ?_)
    refine ev_aljN (i := 0) rfl (by assumption) (by omega) (by omega) ?_
    rw [q9]
    repeat (first | refine ev_go rfl (by rfl) ?_ | refine ev_gf rfl (by assumption) (by rfl) (by rfl) ?_)
    refine ev_vi (lg_self _) ?_
    repeat (first | exact z1 | refine ev_go rfl (by rfl) ?_ | refine ev_gf rfl (by assumption) (by rfl) (by rfl) ?_)
  · repeat (first | refine ev_go rfl (by rfl) ?_ | refine ev_gf rfl (by assumption) (by rfl) (by rfl) ?_)
    refine ev_ifT rfl (by exact b_ne (a := kx) (b := 0) (by omega) (by omega) (by omega)) ?_
    repeat (first | exact z1 | refine ev_go rfl (by rfl) ?_ | refine ev_gf rfl (by assumption) (by rfl) (by rfl) ?_)
theorem la_find (d : Nat) (x5 x6 x7 : Option Value) (hn : n < 512) (hi : 6 * n + 6 ≤ Ls) (hLs : Ls ≤ 3072) (h : Gs Ls xs mem n) (next : ∀ (m2 : j_M) (x5 x6 x7 : Option Value), Gs Ls xs m2 (n + 1) → ∃ mo, j_ev (d + 31) (j_ex tb (d + 30)) (j_tab q_law) [] (.inl (some (.int 1))) (mo) 810 [some (.ref 0), some (.ref 4), some (.ref 69), some (.ref 77), some (.int (nI (6 * n))), x5, x6, x7] [] m2 ∧ Bnd mo) : ∃ mo, j_ev (d + 31) (j_ex tb (d + 30)) (j_tab q_law) [] (.inl (some (.int 1))) (mo) 492 [some (.ref 0), some (.ref 4), some (.ref 69), some (.ref 77), some (.int (nI (6 * n))), x5, x6, x7] [] mem ∧ Bnd mo := by
  have s0 : mem.2.2 0 = some (.inl (0, Ls, .inl xs)) := by
    obtain ⟨G, P, s, sh, lv, mm, LV, J, Q, L, b, bm, at', y, fa, hcl, -⟩ := h
    exact hcl.2.2.2.2
  have l4 : ∃ fs, mem.2.2 4 = some (.inr (0, fs)) := by
    obtain ⟨G, P, s, sh, lv, mm, LV, J, Q, L, b, bm, at', y, fa, hcl, -⟩ := h
    exact ⟨_, Sy_lt hcl.1⟩
  obtain ⟨f4, l4⟩ := l4
  obtain ⟨m1, m2, kx, bv, g, f1, f2, q1, q2, q3, q4, q5, q6, q7, q8, q9, q10⟩ := op_find d (xs (6 * n + 1)) hn h
  obtain ⟨mo, z1, z2⟩ := next m2 (some (.int (nI kx))) (some (.int bv)) x7 q10
  refine ⟨mo, ?_, z2⟩
  repeat (first | refine ev_go rfl (by rfl) ?_ | refine ev_gf rfl (by assumption) (by rfl) (by rfl) ?_)
  refine ev_vi (nI_add (6 * n) 1) ?_
  refine ev_aliN (i := 6 * n + 1) rfl (by assumption) (by omega) (by omega) ?_
  repeat (first | refine ev_go rfl (by rfl) ?_ | refine ev_gf rfl (by assumption) (by rfl) (by rfl) ?_)
  refine j_ev.call rfl (q2) ?_
  repeat (first | refine ev_go rfl (by rfl) ?_ | refine ev_gf rfl (by assumption) (by rfl) (by rfl) ?_)
  refine ev_vi (nI_add (6 * n) 1) ?_
  refine ev_aliN (i := 6 * n + 1) rfl (by assumption) (by omega) (by omega) ?_
  refine ev_cv (as := [.int (xs (6 * n + 1))]) rfl rfl rfl (by assumption) (by rfl) (by rfl) (q3) ?_
  repeat (first | refine ev_go rfl (by rfl) ?_ | refine ev_gf rfl (by assumption) (by rfl) (by rfl) ?_)
  refine ev_cv (as := []) rfl rfl rfl (by assumption) (by rfl) (by rfl) (q4) ?_
  repeat (first | refine ev_go rfl (by rfl) ?_ | refine ev_gf rfl (by assumption) (by rfl) (by rfl) ?_)
  refine ev_icT rfl (by exact decide_eq_true rfl) ?_
  rcases Nat.eq_zero_or_pos kx with e | e
  · subst e
    have q9 := q9 rfl
    repeat (first | refine ev_go rfl (by rfl) ?_ | refine ev_gf rfl (by assumption) (by rfl) (by rfl) ?_)
    refine ev_aljN (i := 0) rfl (by assumption) (by omega) (by omega) ?_
    rw [q9]
    repeat (first | refine ev_go rfl (by rfl) ?_ | refine ev_gf rfl (by assumption) (by rfl) (by rfl) ?_)
    refine ev_vi (lg_self _) ?_
    repeat (first | exact z1 | refine ev_go rfl (by rfl) ?_ | refine ev_gf rfl (by assumption) (by rfl) (by rfl) ?_)
  · repeat (first | refine ev_go rfl (by rfl) ?_ | refine ev_gf rfl (by assumption) (by rfl) (by rfl) ?_)
    refine ev_ifT rfl (by exact b_ne (a := kx) (b := 0) (by omega) (by omega) (by omega)) ?_
    repeat (first | exact z1 | refine ev_go rfl (by rfl) ?_ | refine ev_gf rfl (by assumption) (by rfl) (by rfl) ?_)
theorem la_current (d : Nat) (x5 x6 x7 : Option Value) (hn : n < 512) (hi : 6 * n + 6 ≤ Ls) (hLs : Ls ≤ 3072) (h : Gs Ls xs mem n) (next : ∀ (m2 : j_M) (x5 x6 x7 : Option Value), Gs Ls xs m2 (n + 1) → ∃ mo, j_ev (d + 31) (j_ex tb (d + 30)) (j_tab q_law) [] (.inl (some (.int 1))) (mo) 810 [some (.ref 0), some (.ref 4), some (.ref 69), some (.ref 77), some (.int (nI (6 * n))), x5, x6, x7] [] m2 ∧ Bnd mo) : ∃ mo, j_ev (d + 31) (j_ex tb (d + 30)) (j_tab q_law) [] (.inl (some (.int 1))) (mo) 632 [some (.ref 0), some (.ref 4), some (.ref 69), some (.ref 77), some (.int (nI (6 * n))), x5, x6, x7] [] mem ∧ Bnd mo := by
  have s0 : mem.2.2 0 = some (.inl (0, Ls, .inl xs)) := by
    obtain ⟨G, P, s, sh, lv, mm, LV, J, Q, L, b, bm, at', y, fa, hcl, -⟩ := h
    exact hcl.2.2.2.2
  have l4 : ∃ fs, mem.2.2 4 = some (.inr (0, fs)) := by
    obtain ⟨G, P, s, sh, lv, mm, LV, J, Q, L, b, bm, at', y, fa, hcl, -⟩ := h
    exact ⟨_, Sy_lt hcl.1⟩
  obtain ⟨f4, l4⟩ := l4
  obtain ⟨m1, m2, kx, bv, g, f1, f2, q1, q2, q3, q4, q5, q6, q7, q8, q9, q10⟩ := op_current d (xs (6 * n + 1)) (by omega) h
  obtain ⟨mo, z1, z2⟩ := next m2 (some (.int (nI kx))) (some (.int bv)) x7 q10
  refine ⟨mo, ?_, z2⟩
  repeat (first | refine ev_go rfl (by rfl) ?_ | refine ev_gf rfl (by assumption) (by rfl) (by rfl) ?_)
  refine ev_vi (nI_add (6 * n) 1) ?_
  refine ev_aliN (i := 6 * n + 1) rfl (by assumption) (by omega) (by omega) ?_
  repeat (first | refine ev_go rfl (by rfl) ?_ | refine ev_gf rfl (by assumption) (by rfl) (by rfl) ?_)
  refine j_ev.call rfl (q2) ?_
  repeat (first | refine ev_go rfl (by rfl) ?_ | refine ev_gf rfl (by assumption) (by rfl) (by rfl) ?_)
  refine ev_vi (nI_add (6 * n) 1) ?_
  refine ev_aliN (i := 6 * n + 1) rfl (by assumption) (by omega) (by omega) ?_
  refine ev_cv (as := [.int (xs (6 * n + 1))]) rfl rfl rfl (by assumption) (by rfl) (by rfl) (q3) ?_
  repeat (first | refine ev_go rfl (by rfl) ?_ | refine ev_gf rfl (by assumption) (by rfl) (by rfl) ?_)
  refine ev_cv (as := []) rfl rfl rfl (by assumption) (by rfl) (by rfl) (q4) ?_
  repeat (first | refine ev_go rfl (by rfl) ?_ | refine ev_gf rfl (by assumption) (by rfl) (by rfl) ?_)
  refine ev_icT rfl (by exact decide_eq_true rfl) ?_
  rcases Nat.eq_zero_or_pos kx with e | e
  · subst e
    have q9 := q9 rfl
    repeat (first | refine ev_go rfl (by rfl) ?_ | refine ev_gf rfl (by assumption) (by rfl) (by rfl) ?_)
    refine ev_aljN (i := 0) rfl (by assumption) (by omega) (by omega) ?_
    rw [q9]
    repeat (first | refine ev_go rfl (by rfl) ?_ | refine ev_gf rfl (by assumption) (by rfl) (by rfl) ?_)
    refine ev_vi (lg_self _) ?_
    repeat (first | exact z1 | refine ev_go rfl (by rfl) ?_ | refine ev_gf rfl (by assumption) (by rfl) (by rfl) ?_)
  · repeat (first | refine ev_go rfl (by rfl) ?_ | refine ev_gf rfl (by assumption) (by rfl) (by rfl) ?_)
    refine ev_ifT rfl (by exact b_ne (a := kx) (b := 0) (by omega) (by omega) (by omega)) ?_
    repeat (first | exact z1 | refine ev_go rfl (by rfl) ?_ | refine ev_gf rfl (by assumption) (by rfl) (by rfl) ?_)
theorem la_word (d : Nat) (x5 x6 x7 : Option Value) (hn : n < 512) (hi : 6 * n + 6 ≤ Ls) (hLs : Ls ≤ 3072) (h : Gs Ls xs mem n) (next : ∀ (m2 : j_M) (x5 x6 x7 : Option Value), Gs Ls xs m2 (n + 1) → ∃ mo, j_ev (d + 31) (j_ex tb (d + 30)) (j_tab q_law) [] (.inl (some (.int 1))) (mo) 810 [some (.ref 0), some (.ref 4), some (.ref 69), some (.ref 77), some (.int (nI (6 * n))), x5, x6, x7] [] m2 ∧ Bnd mo) : ∃ mo, j_ev (d + 31) (j_ex tb (d + 30)) (j_tab q_law) [] (.inl (some (.int 1))) (mo) 688 [some (.ref 0), some (.ref 4), some (.ref 69), some (.ref 77), some (.int (nI (6 * n))), x5, x6, x7] [] mem ∧ Bnd mo := by
  have s0 : mem.2.2 0 = some (.inl (0, Ls, .inl xs)) := by
    obtain ⟨G, P, s, sh, lv, mm, LV, J, Q, L, b, bm, at', y, fa, hcl, -⟩ := h
    exact hcl.2.2.2.2
  have l4 : ∃ fs, mem.2.2 4 = some (.inr (0, fs)) := by
    obtain ⟨G, P, s, sh, lv, mm, LV, J, Q, L, b, bm, at', y, fa, hcl, -⟩ := h
    exact ⟨_, Sy_lt hcl.1⟩
  obtain ⟨f4, l4⟩ := l4
  obtain ⟨m1, m2, kx, bv, g, f1, f2, q1, q2, q3, q4, q5, q6, q7, q8, q9, q10⟩ := op_word d (xs (6 * n + 1)) (by omega) h
  obtain ⟨mo, z1, z2⟩ := next m2 (some (.int (nI kx))) (some (.long bv)) none q10
  refine ⟨mo, ?_, z2⟩
  repeat (first | refine ev_go rfl (by rfl) ?_ | refine ev_gf rfl (by assumption) (by rfl) (by rfl) ?_)
  refine ev_vi (nI_add (6 * n) 1) ?_
  refine ev_aliN (i := 6 * n + 1) rfl (by assumption) (by omega) (by omega) ?_
  repeat (first | refine ev_go rfl (by rfl) ?_ | refine ev_gf rfl (by assumption) (by rfl) (by rfl) ?_)
  refine j_ev.call rfl (q2) ?_
  repeat (first | refine ev_go rfl (by rfl) ?_ | refine ev_gf rfl (by assumption) (by rfl) (by rfl) ?_)
  refine ev_vi (nI_add (6 * n) 1) ?_
  refine ev_aliN (i := 6 * n + 1) rfl (by assumption) (by omega) (by omega) ?_
  refine ev_cv (as := [.int (xs (6 * n + 1))]) rfl rfl rfl (by assumption) (by rfl) (by rfl) (q3) ?_
  repeat (first | refine ev_go rfl (by rfl) ?_ | refine ev_gf rfl (by assumption) (by rfl) (by rfl) ?_)
  refine ev_cv (as := []) rfl rfl rfl (by assumption) (by rfl) (by rfl) (q4) ?_
  repeat (first | refine ev_go rfl (by rfl) ?_ | refine ev_gf rfl (by assumption) (by rfl) (by rfl) ?_)
  refine ev_icT rfl (by exact decide_eq_true rfl) ?_
  rcases Nat.eq_zero_or_pos kx with e | e
  · subst e
    have q9 := q9 rfl
    repeat (first | refine ev_go rfl (by rfl) ?_ | refine ev_gf rfl (by assumption) (by rfl) (by rfl) ?_)
    refine ev_aljN (i := 0) rfl (by assumption) (by omega) (by omega) ?_
    rw [q9]
    repeat (first | refine ev_go rfl (by rfl) ?_ | refine ev_gf rfl (by assumption) (by rfl) (by rfl) ?_)
    refine ev_vi (lg_self _) ?_
    repeat (first | exact z1 | refine ev_go rfl (by rfl) ?_ | refine ev_gf rfl (by assumption) (by rfl) (by rfl) ?_)
  · repeat (first | refine ev_go rfl (by rfl) ?_ | refine ev_gf rfl (by assumption) (by rfl) (by rfl) ?_)
    refine ev_ifT rfl (by exact b_ne (a := kx) (b := 0) (by omega) (by omega) (by omega)) ?_
    repeat (first | exact z1 | refine ev_go rfl (by rfl) ?_ | refine ev_gf rfl (by assumption) (by rfl) (by rfl) ?_)
theorem la_seek (d : Nat) (x5 x6 x7 : Option Value) (hn : n < 512) (hi : 6 * n + 6 ≤ Ls) (hLs : Ls ≤ 3072) (h : Gs Ls xs mem n) (next : ∀ (m2 : j_M) (x5 x6 x7 : Option Value), Gs Ls xs m2 (n + 1) → ∃ mo, j_ev (d + 31) (j_ex tb (d + 30)) (j_tab q_law) [] (.inl (some (.int 1))) (mo) 810 [some (.ref 0), some (.ref 4), some (.ref 69), some (.ref 77), some (.int (nI (6 * n))), x5, x6, x7] [] m2 ∧ Bnd mo) : ∃ mo, j_ev (d + 31) (j_ex tb (d + 30)) (j_tab q_law) [] (.inl (some (.int 1))) (mo) 548 [some (.ref 0), some (.ref 4), some (.ref 69), some (.ref 77), some (.int (nI (6 * n))), x5, x6, x7] [] mem ∧ Bnd mo := by
  have s0 : mem.2.2 0 = some (.inl (0, Ls, .inl xs)) := by
    obtain ⟨G, P, s, sh, lv, mm, LV, J, Q, L, b, bm, at', y, fa, hcl, -⟩ := h
    exact hcl.2.2.2.2
  have l4 : ∃ fs, mem.2.2 4 = some (.inr (0, fs)) := by
    obtain ⟨G, P, s, sh, lv, mm, LV, J, Q, L, b, bm, at', y, fa, hcl, -⟩ := h
    exact ⟨_, Sy_lt hcl.1⟩
  obtain ⟨f4, l4⟩ := l4
  have hz : ∃ z, z ≤ 1 ∧ ((z = 0 ∧ xs (6 * n + 2) = 0) ∨ (z = 1 ∧ ¬ xs (6 * n + 2) = 0)) := by
    by_cases c : xs (6 * n + 2) = 0
    · exact ⟨0, by omega, Or.inl ⟨rfl, c⟩⟩
    · exact ⟨1, by omega, Or.inr ⟨rfl, c⟩⟩
  obtain ⟨z, hz1, hz2⟩ := hz
  obtain ⟨m1, m2, kx, bv, g, f1, f2, q1, q2, q3, q4, q5, q6, q7, q8, q9, q10⟩ := op_seek d (xs (6 * n + 1)) hz1 hn h
  obtain ⟨mo, z1, z2⟩ := next m2 (some (.int (nI kx))) (some (.int bv)) x7 q10
  refine ⟨mo, ?_, z2⟩
  have fin : j_ev (d + 31) (j_ex tb (d + 30)) (j_tab q_law) [] (.inl (some (.int 1))) (mo) 601 [some (.ref 0), some (.ref 4), some (.ref 69), some (.ref 77), some (.int (nI (6 * n))), some (.int (nI kx)), some (.int bv), x7] [] m2 := by
    repeat (first | refine ev_go rfl (by rfl) ?_ | refine ev_gf rfl (by assumption) (by rfl) (by rfl) ?_)
    refine ev_cv (as := []) rfl rfl rfl (by assumption) (by rfl) (by rfl) (q4) ?_
    repeat (first | refine ev_go rfl (by rfl) ?_ | refine ev_gf rfl (by assumption) (by rfl) (by rfl) ?_)
    refine ev_icT rfl (by exact decide_eq_true rfl) ?_
    rcases Nat.eq_zero_or_pos kx with e | e
    · subst e
      have q9 := q9 rfl
      repeat (first | refine ev_go rfl (by rfl) ?_ | refine ev_gf rfl (by assumption) (by rfl) (by rfl) ?_)
      refine ev_aljN (i := 0) rfl (by assumption) (by omega) (by omega) ?_
      rw [q9]
      repeat (first | refine ev_go rfl (by rfl) ?_ | refine ev_gf rfl (by assumption) (by rfl) (by rfl) ?_)
      refine ev_vi (lg_self _) ?_
      repeat (first | exact z1 | refine ev_go rfl (by rfl) ?_ | refine ev_gf rfl (by assumption) (by rfl) (by rfl) ?_)
    · repeat (first | refine ev_go rfl (by rfl) ?_ | refine ev_gf rfl (by assumption) (by rfl) (by rfl) ?_)
      refine ev_ifT rfl (by exact b_ne (a := kx) (b := 0) (by omega) (by omega) (by omega)) ?_
      repeat (first | exact z1 | refine ev_go rfl (by rfl) ?_ | refine ev_gf rfl (by assumption) (by rfl) (by rfl) ?_)
  rcases hz2 with ⟨rfl, c⟩ | ⟨rfl, c⟩
  · repeat (first | refine ev_go rfl (by rfl) ?_ | refine ev_gf rfl (by assumption) (by rfl) (by rfl) ?_)
    refine ev_vi (nI_add (6 * n) 1) ?_
    refine ev_aliN (i := 6 * n + 1) rfl (by assumption) (by omega) (by omega) ?_
    repeat (first | refine ev_go rfl (by rfl) ?_ | refine ev_gf rfl (by assumption) (by rfl) (by rfl) ?_)
    refine ev_vi (nI_add (6 * n) 2) ?_
    refine ev_aliN (i := 6 * n + 2) rfl (by assumption) (by omega) (by omega) ?_
    refine ev_ifT rfl (by exact decide_eq_true c) ?_
    repeat (first | refine ev_go rfl (by rfl) ?_ | refine ev_gf rfl (by assumption) (by rfl) (by rfl) ?_)
    refine j_ev.call rfl (q2) ?_
    repeat (first | refine ev_go rfl (by rfl) ?_ | refine ev_gf rfl (by assumption) (by rfl) (by rfl) ?_)
    refine ev_vi (nI_add (6 * n) 1) ?_
    refine ev_aliN (i := 6 * n + 1) rfl (by assumption) (by omega) (by omega) ?_
    repeat (first | refine ev_go rfl (by rfl) ?_ | refine ev_gf rfl (by assumption) (by rfl) (by rfl) ?_)
    refine ev_vi (nI_add (6 * n) 2) ?_
    refine ev_aliN (i := 6 * n + 2) rfl (by assumption) (by omega) (by omega) ?_
    refine ev_ifT rfl (by exact decide_eq_true c) ?_
    repeat (first | refine ev_go rfl (by rfl) ?_ | refine ev_gf rfl (by assumption) (by rfl) (by rfl) ?_)
    refine ev_cv (as := [.int (xs (6 * n + 1)), .int (nI 0)]) rfl rfl rfl (by assumption) (by rfl) (by rfl) (q3) ?_
    repeat (first | exact fin | refine ev_go rfl (by rfl) ?_ | refine ev_gf rfl (by assumption) (by rfl) (by rfl) ?_)
  · repeat (first | refine ev_go rfl (by rfl) ?_ | refine ev_gf rfl (by assumption) (by rfl) (by rfl) ?_)
    refine ev_vi (nI_add (6 * n) 1) ?_
    refine ev_aliN (i := 6 * n + 1) rfl (by assumption) (by omega) (by omega) ?_
    repeat (first | refine ev_go rfl (by rfl) ?_ | refine ev_gf rfl (by assumption) (by rfl) (by rfl) ?_)
    refine ev_vi (nI_add (6 * n) 2) ?_
    refine ev_aliN (i := 6 * n + 2) rfl (by assumption) (by omega) (by omega) ?_
    refine ev_ifF rfl (by exact decide_eq_false c) ?_
    repeat (first | refine ev_go rfl (by rfl) ?_ | refine ev_gf rfl (by assumption) (by rfl) (by rfl) ?_)
    refine j_ev.call rfl (q2) ?_
    repeat (first | refine ev_go rfl (by rfl) ?_ | refine ev_gf rfl (by assumption) (by rfl) (by rfl) ?_)
    refine ev_vi (nI_add (6 * n) 1) ?_
    refine ev_aliN (i := 6 * n + 1) rfl (by assumption) (by omega) (by omega) ?_
    repeat (first | refine ev_go rfl (by rfl) ?_ | refine ev_gf rfl (by assumption) (by rfl) (by rfl) ?_)
    refine ev_vi (nI_add (6 * n) 2) ?_
    refine ev_aliN (i := 6 * n + 2) rfl (by assumption) (by omega) (by omega) ?_
    refine ev_ifF rfl (by exact decide_eq_false c) ?_
    repeat (first | refine ev_go rfl (by rfl) ?_ | refine ev_gf rfl (by assumption) (by rfl) (by rfl) ?_)
    refine ev_cv (as := [.int (xs (6 * n + 1)), .int (nI 1)]) rfl rfl rfl (by assumption) (by rfl) (by rfl) (q3) ?_
    repeat (first | exact fin | refine ev_go rfl (by rfl) ?_ | refine ev_gf rfl (by assumption) (by rfl) (by rfl) ?_)
theorem la_flush (d : Nat) (x5 x6 x7 : Option Value) (hn : n < 512) (hi : 6 * n + 6 ≤ Ls) (hLs : Ls ≤ 3072) (h : Gs Ls xs mem n) (next : ∀ (m2 : j_M) (x5 x6 x7 : Option Value), Gs Ls xs m2 (n + 1) → ∃ mo, j_ev (d + 31) (j_ex tb (d + 30)) (j_tab q_law) [] (.inl (some (.int 1))) (mo) 810 [some (.ref 0), some (.ref 4), some (.ref 69), some (.ref 77), some (.int (nI (6 * n))), x5, x6, x7] [] m2 ∧ Bnd mo) : ∃ mo, j_ev (d + 31) (j_ex tb (d + 30)) (j_tab q_law) [] (.inl (some (.int 1))) (mo) 743 [some (.ref 0), some (.ref 4), some (.ref 69), some (.ref 77), some (.int (nI (6 * n))), x5, x6, x7] [] mem ∧ Bnd mo := by
  have s0 : mem.2.2 0 = some (.inl (0, Ls, .inl xs)) := by
    obtain ⟨G, P, s, sh, lv, mm, LV, J, Q, L, b, bm, at', y, fa, hcl, -⟩ := h
    exact hcl.2.2.2.2
  have l4 : ∃ fs, mem.2.2 4 = some (.inr (0, fs)) := by
    obtain ⟨G, P, s, sh, lv, mm, LV, J, Q, L, b, bm, at', y, fa, hcl, -⟩ := h
    exact ⟨_, Sy_lt hcl.1⟩
  obtain ⟨f4, l4⟩ := l4
  obtain ⟨m1, m2, v, f1, q2, q3, q5, q6, q10⟩ := op_flush d hn h
  obtain ⟨mo, z1, z2⟩ := next m2 x5 x6 x7 q10
  refine ⟨mo, ?_, z2⟩
  repeat (first | refine ev_go rfl (by rfl) ?_ | refine ev_gf rfl (by assumption) (by rfl) (by rfl) ?_)
  refine ev_cv (as := []) rfl rfl rfl (by assumption) (by rfl) (by rfl) (q2) ?_
  repeat (first | refine ev_go rfl (by rfl) ?_ | refine ev_gf rfl (by assumption) (by rfl) (by rfl) ?_)
  refine ev_cv (as := []) rfl rfl rfl (by assumption) (by rfl) (by rfl) (q3) ?_
  refine ev_icT rfl (by exact decide_eq_true rfl) ?_
  exact z1
theorem la_check (d : Nat) (x5 x6 x7 : Option Value) (hn : n < 512) (hi : 6 * n + 6 ≤ Ls) (hLs : Ls ≤ 3072) (h : Gs Ls xs mem n) (next : ∀ (m2 : j_M) (x5 x6 x7 : Option Value), Gs Ls xs m2 (n + 1) → ∃ mo, j_ev (d + 31) (j_ex tb (d + 30)) (j_tab q_law) [] (.inl (some (.int 1))) (mo) 810 [some (.ref 0), some (.ref 4), some (.ref 69), some (.ref 77), some (.int (nI (6 * n))), x5, x6, x7] [] m2 ∧ Bnd mo) : ∃ mo, j_ev (d + 31) (j_ex tb (d + 30)) (j_tab q_law) [] (.inl (some (.int 1))) (mo) 797 [some (.ref 0), some (.ref 4), some (.ref 69), some (.ref 77), some (.int (nI (6 * n))), x5, x6, x7] [] mem ∧ Bnd mo := by
  have s0 : mem.2.2 0 = some (.inl (0, Ls, .inl xs)) := by
    obtain ⟨G, P, s, sh, lv, mm, LV, J, Q, L, b, bm, at', y, fa, hcl, -⟩ := h
    exact hcl.2.2.2.2
  have l4 : ∃ fs, mem.2.2 4 = some (.inr (0, fs)) := by
    obtain ⟨G, P, s, sh, lv, mm, LV, J, Q, L, b, bm, at', y, fa, hcl, -⟩ := h
    exact ⟨_, Sy_lt hcl.1⟩
  obtain ⟨f4, l4⟩ := l4
  obtain ⟨m1, m2, v, f1, q2, q3, q5, q6, q10⟩ := op_check d hn h
  obtain ⟨mo, z1, z2⟩ := next m2 x5 x6 x7 q10
  refine ⟨mo, ?_, z2⟩
  repeat (first | refine ev_go rfl (by rfl) ?_ | refine ev_gf rfl (by assumption) (by rfl) (by rfl) ?_)
  refine ev_cv (as := []) rfl rfl rfl (by assumption) (by rfl) (by rfl) (q2) ?_
  repeat (first | refine ev_go rfl (by rfl) ?_ | refine ev_gf rfl (by assumption) (by rfl) (by rfl) ?_)
  refine ev_cv (as := []) rfl rfl rfl (by assumption) (by rfl) (by rfl) (q3) ?_
  refine ev_icT rfl (by exact decide_eq_true rfl) ?_
  exact z1
theorem la_merge (d : Nat) (x5 x6 x7 : Option Value) (hn : n < 512) (hi : 6 * n + 6 ≤ Ls) (hLs : Ls ≤ 3072) (h : Gs Ls xs mem n) (next : ∀ (m2 : j_M) (x5 x6 x7 : Option Value), Gs Ls xs m2 (n + 1) → ∃ mo, j_ev (d + 31) (j_ex tb (d + 30)) (j_tab q_law) [] (.inl (some (.int 1))) (mo) 810 [some (.ref 0), some (.ref 4), some (.ref 69), some (.ref 77), some (.int (nI (6 * n))), x5, x6, x7] [] m2 ∧ Bnd mo) : ∃ mo, j_ev (d + 31) (j_ex tb (d + 30)) (j_tab q_law) [] (.inl (some (.int 1))) (mo) 756 [some (.ref 0), some (.ref 4), some (.ref 69), some (.ref 77), some (.int (nI (6 * n))), x5, x6, x7] [] mem ∧ Bnd mo := by
  have s0 : mem.2.2 0 = some (.inl (0, Ls, .inl xs)) := by
    obtain ⟨G, P, s, sh, lv, mm, LV, J, Q, L, b, bm, at', y, fa, hcl, -⟩ := h
    exact hcl.2.2.2.2
  have l4 : ∃ fs, mem.2.2 4 = some (.inr (0, fs)) := by
    obtain ⟨G, P, s, sh, lv, mm, LV, J, Q, L, b, bm, at', y, fa, hcl, -⟩ := h
    exact ⟨_, Sy_lt hcl.1⟩
  obtain ⟨f4, l4⟩ := l4
  have hz : ∃ z, z ≤ 1 ∧ ((z = 0 ∧ xs (6 * n + 1) = 0) ∨ (z = 1 ∧ ¬ xs (6 * n + 1) = 0)) := by
    by_cases c : xs (6 * n + 1) = 0
    · exact ⟨0, by omega, Or.inl ⟨rfl, c⟩⟩
    · exact ⟨1, by omega, Or.inr ⟨rfl, c⟩⟩
  obtain ⟨z, hz1, hz2⟩ := hz
  obtain ⟨m1, m2, v, f1, q2, q3, q5, q6, q10⟩ := op_merge d hz1 hn h
  obtain ⟨mo, z1, z2⟩ := next m2 x5 x6 x7 q10
  refine ⟨mo, ?_, z2⟩
  rcases hz2 with ⟨rfl, c⟩ | ⟨rfl, c⟩
  · repeat (first | refine ev_go rfl (by rfl) ?_ | refine ev_gf rfl (by assumption) (by rfl) (by rfl) ?_)
    refine ev_vi (nI_add (6 * n) 1) ?_
    refine ev_aliN (i := 6 * n + 1) rfl (by assumption) (by omega) (by omega) ?_
    refine ev_ifT rfl (by exact decide_eq_true c) ?_
    repeat (first | refine ev_go rfl (by rfl) ?_ | refine ev_gf rfl (by assumption) (by rfl) (by rfl) ?_)
    refine ev_cv (as := [.int (nI 0)]) rfl rfl rfl (by assumption) (by rfl) (by rfl) (q2) ?_
    repeat (first | refine ev_go rfl (by rfl) ?_ | refine ev_gf rfl (by assumption) (by rfl) (by rfl) ?_)
    refine ev_vi (nI_add (6 * n) 1) ?_
    refine ev_aliN (i := 6 * n + 1) rfl (by assumption) (by omega) (by omega) ?_
    refine ev_ifT rfl (by exact decide_eq_true c) ?_
    repeat (first | refine ev_go rfl (by rfl) ?_ | refine ev_gf rfl (by assumption) (by rfl) (by rfl) ?_)
    refine ev_cv (as := [.int (nI 0)]) rfl rfl rfl (by assumption) (by rfl) (by rfl) (q3) ?_
    refine ev_icT rfl (by exact decide_eq_true rfl) ?_
    exact z1
  · repeat (first | refine ev_go rfl (by rfl) ?_ | refine ev_gf rfl (by assumption) (by rfl) (by rfl) ?_)
    refine ev_vi (nI_add (6 * n) 1) ?_
    refine ev_aliN (i := 6 * n + 1) rfl (by assumption) (by omega) (by omega) ?_
    refine ev_ifF rfl (by exact decide_eq_false c) ?_
    repeat (first | refine ev_go rfl (by rfl) ?_ | refine ev_gf rfl (by assumption) (by rfl) (by rfl) ?_)
    refine ev_cv (as := [.int (nI 1)]) rfl rfl rfl (by assumption) (by rfl) (by rfl) (q2) ?_
    repeat (first | refine ev_go rfl (by rfl) ?_ | refine ev_gf rfl (by assumption) (by rfl) (by rfl) ?_)
    refine ev_vi (nI_add (6 * n) 1) ?_
    refine ev_aliN (i := 6 * n + 1) rfl (by assumption) (by omega) (by omega) ?_
    refine ev_ifF rfl (by exact decide_eq_false c) ?_
    repeat (first | refine ev_go rfl (by rfl) ?_ | refine ev_gf rfl (by assumption) (by rfl) (by rfl) ?_)
    refine ev_cv (as := [.int (nI 1)]) rfl rfl rfl (by assumption) (by rfl) (by rfl) (q3) ?_
    refine ev_icT rfl (by exact decide_eq_true rfl) ?_
    exact z1
end LOOP
