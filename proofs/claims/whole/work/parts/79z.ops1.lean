/-! THE LAW: feed, end, open, close, current (own text) -/
section OPS3
variable {Ls : Nat} {xs : Nat → Int32} {mem : j_M} {n : Nat}
theorem op_feed (d : Nat) (x1 x2 x3 x4 x5 : Int32) (h : Gs Ls xs mem n) : Opr d Ls xs n m_La_feed m_Mo_feed [.ref 4, .int x1, .int x2, .int x3, .int x4, .int x5, .ref 77] [.ref 69, .int x1, .int x2, .int x3, .int x4, .int x5] mem := by
  obtain ⟨G, P, s, sh, lv, mm, LV, J, Q, L, b, bm, at', y, fa, hcl, hmd, h77, hpz⟩ := h
  obtain ⟨R, E, C, B, Wn, T, U, D, hb, hsb⟩ := Sy_bs hcl.1
  have l4 := Sy_lt hcl.1
  have hL := hpz.2.2.1
  by_cases c : L + 20 ≤ 60
  · have k := x_LT_feed (d + 27) hsb.1 hcl.2.1 c x1 x2 x3 x4 x5
    have x1' : ∀ c, c ≠ 5 → c ≠ 6 → (tset mem (L + 20) (ap20 b L x1 x2 x3 x4 x5)).2.2 c = mem.2.2 c := fun c c1 c2 => by unfold tset; rw [st_ne _ _ c1, st_ne _ _ c2]
    have hcl' : Cl Ls xs (tset mem (L + 20) (ap20 b L x1 x2 x3 x4 x5)) G P s sh lv mm LV J Q (L + 20) (ap20 b L x1 x2 x3 x4 x5) y := by
      obtain ⟨a1, a2, a3, a4, a5⟩ := hcl
      refine ⟨Sy_ag a1 rfl rfl (fun c _ c1 c2 _ _ _ _ => x1' c c1 c2) ((x1' 4 (by omega) (by omega)).trans hsb.1) ⟨(x1' 7 (by omega) (by omega)).trans hsb.2.1.1, (x1' 8 (by omega) (by omega)).trans hsb.2.1.2⟩ (Vs_fr hsb.2.2.2.2.1 (fun c c1 c2 => x1' c (by omega) (by omega))), Ta_tset _ _ _, ?_, (x1' 1 (by omega) (by omega)).trans a4, (x1' 0 (by omega) (by omega)).trans a5⟩
      rcases a3 with q | ⟨q, f, f1, f2⟩
      · exact Or.inl q
      · exact Or.inr ⟨q, f, ⟨(x1' 30 (by omega) (by omega)).trans f1.1, (x1' 31 (by omega) (by omega)).trans f1.2⟩, f2⟩
    refine opS d (v := nI (L + 20)) (bm' := fbs bm L x1 x2 x3 x4 x5 20) (at2 := at') h77 hmd hcl' (fun c c1 c2 => x1' c (by omega) (by omega)) (fun g hg => wS_feed (d + 29) l4 k hg) (fun mx hx => ?_) ?_
    · obtain ⟨K, Ln, Pl, Sz, a1, a2, a3, a4, a5⟩ := hx
      have km := x_Mo_feed (d + 28) x1 x2 x3 x4 x5 a1 a2 c
      refine ⟨_, km, ⟨rfl, rfl, fun c hc => by unfold mset; rw [st_ne _ _ (by omega), st_ne _ _ (by omega)]⟩, K, Ln, Pl, Sz, rfl, rfl, a3, a4, a5⟩
    · obtain ⟨a1, a2, a3, a4, a5, a6, a7, a8, a9, a10, a11⟩ := hpz
      refine ⟨a1, a2, by omega, feed_same a4 x1 x2 x3 x4 x5, Byt_fbs a5 _ _ _ _ _ _ _, a6, a7, a8, ?_, by omega, by omega⟩
      rw [if_neg (by omega)]
      split at a9 <;> omega
  · have k := x_LT_feedT (d + 27) (by omega) hsb.1 hcl.2.1 (by omega) hL x1 x2 x3 x4 x5
    exact opR d (kx := 1) (by omega) hcl hmd h77 hpz (wC_feed_2 (d + 29) l4 k) (fun mx hx => x_Mo_feedT (d + 28) x1 x2 x3 x4 x5 hx hL (by omega))
theorem op_end (d : Nat) (x : Int32) (h : Gs Ls xs mem n) : Opr d Ls xs n m_La_end m_Mo_end [.ref 4, .int x, .ref 77] [.ref 69, .int x] mem := by
  obtain ⟨G, P, s, sh, lv, mm, LV, J, Q, L, b, bm, at', y, fa, hcl, hmd, h77, hpz⟩ := h
  obtain ⟨R, E, C, B, Wn, T, U, D, hb, hsb⟩ := Sy_bs hcl.1
  have l4 := Sy_lt hcl.1
  have hL := hpz.2.2.1
  by_cases c : x < 0 ∨ ∃ n, x = nI n ∧ n < 2 ^ 31 ∧ L < n
  · have k := x_LT_endT (d + 27) (by omega) hsb.1 hcl.2.1 hL c
    exact opR d (kx := 1) (by omega) hcl hmd h77 hpz (wC_end_0 (d + 29) l4 k) (fun mx hx => x_Mo_endT (d + 28) hx hL c)
  · have hx : ∃ w, x = nI w ∧ w ≤ L := by
      rcases int_c x with q | ⟨w, q1, q2⟩
      · exact absurd (Or.inl q) c
      · refine ⟨w, q1, ?_⟩
        rcases Nat.lt_or_ge L w with e | e
        · exact absurd (Or.inr ⟨w, q1, q2, e⟩) c
        · exact e
    obtain ⟨w, rfl, hw⟩ := hx
    have k := x_LT_end (d + 27) hsb.1 hcl.2.1 hL hw
    have x1' : ∀ c, c ≠ 5 → (j_set mem 5 (.inr (1, [.int (nI w), .ref 6]))).2.2 c = mem.2.2 c := fun c c1 => st_ne _ _ c1
    have hcl' : Cl Ls xs (j_set mem 5 (.inr (1, [.int (nI w), .ref 6]))) G P s sh lv mm LV J Q w b y := by
      obtain ⟨a1, a2, a3, a4, a5⟩ := hcl
      refine ⟨Sy_ag a1 rfl rfl (fun c _ c1 c2 _ _ _ _ => x1' c c1) ((x1' 4 (by omega)).trans hsb.1) ⟨(x1' 7 (by omega)).trans hsb.2.1.1, (x1' 8 (by omega)).trans hsb.2.1.2⟩ (Vs_fr hsb.2.2.2.2.1 (fun c c1 c2 => x1' c (by omega))), Ta_cut a2, ?_, (x1' 1 (by omega)).trans a4, (x1' 0 (by omega)).trans a5⟩
      rcases a3 with q | ⟨q, f, f1, f2⟩
      · exact Or.inl q
      · exact Or.inr ⟨q, f, ⟨(x1' 30 (by omega)).trans f1.1, (x1' 31 (by omega)).trans f1.2⟩, f2⟩
    refine opS d (v := nI w) (bm' := bm) (at2 := at') h77 hmd hcl' (fun c c1 c2 => x1' c (by omega)) (fun g hg => wS_end (d + 29) l4 k hg) (fun mx hx => ?_) ?_
    · obtain ⟨K, Ln, Pl, Sz, a1, a2, a3, a4, a5⟩ := hx
      have km := x_Mo_end (d + 28) a1 hL hw
      exact ⟨_, km, Mfr_69 _, K, Ln, Pl, Sz, rfl, a2, Mar_69 a3 _, a4, a5⟩
    · obtain ⟨a1, a2, a3, a4, a5, a6, a7, a8, a9, a10, a11⟩ := hpz
      refine ⟨a1, a2, by omega, fun j hj => a4 j (by omega), a5, a6, a7, a8, ?_, by omega, by omega⟩
      by_cases e : w = 0
      · rw [if_pos e]
        omega
      · rw [if_neg e]
        rw [if_neg (by omega)] at a9
        omega
theorem n_8 {i : Nat} (h : ¬ (nI 8 ≤ nI i)) (hi : i < 2 ^ 31) : i < 8 := by
  rcases Nat.lt_or_ge i 8 with c | c
  · exact c
  · exact absurd ((nI_leI (by omega) hi).mpr c) h
theorem view_c (x : Int32) : (x < 0 ∨ nI 8 ≤ x) ∨ ∃ i, x = nI i ∧ i < 8 := by
  rcases int_c x with q | ⟨i, rfl, hi⟩
  · exact Or.inl (Or.inl q)
  · by_cases c : nI 8 ≤ nI i
    · exact Or.inl (Or.inr c)
    · exact Or.inr ⟨i, rfl, n_8 c hi⟩
theorem op_open (d : Nat) (x : Int32) (hn : n < 1000) (h : Gs Ls xs mem n) : Opr d Ls xs n m_La_open m_Mo_open [.ref 4, .int x, .ref 77] [.ref 69, .int x] mem := by
  obtain ⟨G, P, s, sh, lv, mm, LV, J, Q, L, b, bm, at', y, fa, hcl, hmd, h77, hpz⟩ := h
  obtain ⟨R, E, C, B, Wn, T, U, D, hb, hsb⟩ := Sy_bs hcl.1
  have l4 := Sy_lt hcl.1
  have hP : P ≤ 500 := by have := hpz.2.2.2.2.2.2.2.2.1; omega
  rcases view_c x with c | ⟨i, rfl, hi⟩
  · have k := x_LT_openR (d + 27) (by omega) (mem := mem) c
    exact opR d (kx := 1) (by omega) hcl hmd h77 hpz (wC_open_0 (d + 29) l4 k) (fun mx hx => (x_Mo_viewR (d + 28) hx c).1)
  · cases hsi : s i with
    | some m =>
      have hm : m ≤ P := hpz.2.2.2.2.2.1 i m hsi
      have k := x_LT_openT (d + 27) (by omega) hsb.1 hsb.2.1 hi hsi (by omega)
      obtain ⟨h1, h2⟩ := Cl_thr hcl
      refine opT d (kx := 2) (bv := 0) (by omega) h77 hmd h1 (fun c _ hc => h2 c hc) (wC_open_1 (d + 29) l4 k) (fun mx hx => ?_) (Pz_t hpz)
      have hmo := hx
      obtain ⟨K, Ln, Pl, Sz, a1, a2, a3, a4, a5⟩ := hmo
      exact ⟨_, x_Mo_openT (d + 28) a1 a5 hi hsi, Mfr_69 _, Mdf_69 hx⟩
    | none =>
      have k := x_LT_open (d + 27) hsb.1 hsb.2.1 hi hsi
      generalize hm1 : j_set mem 8 (.inl (0, 8, .inl (fun j => vo (va_up s i (some P) j)))) = m1 at k
      have x1' : ∀ c, c ≠ 8 → m1.2.2 c = mem.2.2 c := fun c c1 => by rw [← hm1, st_ne _ _ c1]
      have hcl' : Cl Ls xs m1 G P (va_up s i (some P)) sh lv mm LV J Q L b y := by
        obtain ⟨a1, a2, a3, a4, a5⟩ := hcl
        refine ⟨Sy_ag a1 (by rw [← hm1]; rfl) (by rw [← hm1]; rfl) (fun c _ _ _ c1 _ _ _ => x1' c c1) ((x1' 4 (by omega)).trans hsb.1) ⟨(x1' 7 (by omega)).trans hsb.2.1.1, by rw [← hm1]; exact st_same _ _ _⟩ (Vs_fr hsb.2.2.2.2.1 (fun c c1 c2 => x1' c (by omega))), ⟨(x1' 5 (by omega)).trans a2.1, (x1' 6 (by omega)).trans a2.2⟩, ?_, (x1' 1 (by omega)).trans a4, (x1' 0 (by omega)).trans a5⟩
        rcases a3 with q | ⟨q, f, f1, f2⟩
        · exact Or.inl q
        · exact Or.inr ⟨q, f, ⟨(x1' 30 (by omega)).trans f1.1, (x1' 31 (by omega)).trans f1.2⟩, f2⟩
      refine opS d (v := nI P) (bm' := bm) (at2 := at') h77 hmd hcl' (fun c c1 c2 => x1' c (by omega)) (fun g hg => wS_open (d + 29) l4 k hg) (fun mx hx => ?_) ?_
      · obtain ⟨K, Ln, Pl, Sz, a1, a2, a3, a4, a5⟩ := hx
        obtain ⟨my, k1, k2, k3, k4, k5, k6⟩ := x_Mo_open (d + 28) a1 a5 hi hsi
        exact ⟨my, k1, ⟨k4, k5, fun c hc => k6 c (by omega) (by omega) (by omega)⟩, K, Ln, Pl, Sz, k2, (k6 70 (by omega) (by omega) (by omega)).trans a2, ⟨(k6 71 (by omega) (by omega) (by omega)).trans a3.1, (k6 72 (by omega) (by omega) (by omega)).trans a3.2.1, (k6 73 (by omega) (by omega) (by omega)).trans a3.2.2.1, (k6 74 (by omega) (by omega) (by omega)).trans a3.2.2.2⟩, a4, k3⟩
      · obtain ⟨a1, a2, a3, a4, a5, a6, a7, a8, a9, a10, a11⟩ := hpz
        refine ⟨a1, fun m hm => ?_, a3, a4, a5, fun j m hj => ?_, a7, a8, by omega, by omega, by omega⟩
        · refine a2 m ?_
          rcases hm with q | ⟨j, j1, j2⟩
          · exact Or.inl q
          · by_cases e : j = i
            · subst e
              rw [va_up_self] at j2
              cases j2
              exact Or.inl rfl
            · rw [va_up_ne _ _ e] at j2
              exact Or.inr ⟨j, j1, j2⟩
        · by_cases e : j = i
          · subst e
            rw [va_up_self] at hj
            cases hj
            exact Nat.le_refl _
          · rw [va_up_ne _ _ e] at hj
            exact a6 j m hj
theorem op_close (d : Nat) (x : Int32) (hn : n < 1000) (h : Gs Ls xs mem n) : Opr d Ls xs n m_La_close m_Mo_close [.ref 4, .int x, .ref 77] [.ref 69, .int x] mem := by
  obtain ⟨G, P, s, sh, lv, mm, LV, J, Q, L, b, bm, at', y, fa, hcl, hmd, h77, hpz⟩ := h
  obtain ⟨R, E, C, B, Wn, T, U, D, hb, hsb⟩ := Sy_bs hcl.1
  have l4 := Sy_lt hcl.1
  have hP : P ≤ 500 := by have := hpz.2.2.2.2.2.2.2.2.1; omega
  rcases view_c x with c | ⟨i, rfl, hi⟩
  · have k := x_LT_closeR (d + 27) (by omega) (mem := mem) c
    exact opR d (kx := 1) (by omega) hcl hmd h77 hpz (wC_close_0 (d + 29) l4 k) (fun mx hx => (x_Mo_viewR (d + 28) hx c).2)
  · cases hsi : s i with
    | none =>
      have k := x_LT_closeT (d + 27) (by omega) hsb.1 hsb.2.1 hi hsi
      obtain ⟨h1, h2⟩ := Cl_thr hcl
      refine opT d (kx := 2) (bv := 0) (by omega) h77 hmd h1 (fun c _ hc => h2 c hc) (wC_close_1 (d + 29) l4 k) (fun mx hx => ?_) (Pz_t hpz)
      have hmo := hx
      obtain ⟨K, Ln, Pl, Sz, a1, a2, a3, a4, a5⟩ := hmo
      exact ⟨_, x_Mo_closeT (d + 28) a1 a5 hi hsi, Mfr_69 _, Mdf_69 hx⟩
    | some m =>
      have hm : m ≤ P := hpz.2.2.2.2.2.1 i m hsi
      have k := x_LT_close (d + 27) hsb.1 hsb.2.1 hi hsi (by omega)
      generalize hm1 : j_set mem 8 (.inl (0, 8, .inl (fun j => vo (va_up s i none j)))) = m1 at k
      have x1' : ∀ c, c ≠ 8 → m1.2.2 c = mem.2.2 c := fun c c1 => by rw [← hm1, st_ne _ _ c1]
      have hcl' : Cl Ls xs m1 G P (va_up s i none) sh lv mm LV J Q L b y := by
        obtain ⟨a1, a2, a3, a4, a5⟩ := hcl
        refine ⟨Sy_ag a1 (by rw [← hm1]; rfl) (by rw [← hm1]; rfl) (fun c _ _ _ c1 _ _ _ => x1' c c1) ((x1' 4 (by omega)).trans hsb.1) ⟨(x1' 7 (by omega)).trans hsb.2.1.1, by rw [← hm1]; exact st_same _ _ _⟩ (Vs_fr hsb.2.2.2.2.1 (fun c c1 c2 => x1' c (by omega))), ⟨(x1' 5 (by omega)).trans a2.1, (x1' 6 (by omega)).trans a2.2⟩, ?_, (x1' 1 (by omega)).trans a4, (x1' 0 (by omega)).trans a5⟩
        rcases a3 with q | ⟨q, f, f1, f2⟩
        · exact Or.inl q
        · exact Or.inr ⟨q, f, ⟨(x1' 30 (by omega)).trans f1.1, (x1' 31 (by omega)).trans f1.2⟩, f2⟩
      refine opS d (v := nI m) (bm' := bm) (at2 := at') h77 hmd hcl' (fun c c1 c2 => x1' c (by omega)) (fun g hg => wS_close (d + 29) l4 k hg) (fun mx hx => ?_) ?_
      · obtain ⟨K, Ln, Pl, Sz, a1, a2, a3, a4, a5⟩ := hx
        obtain ⟨my, k1, k2, k3, k4, k5, k6⟩ := x_Mo_close (d + 28) a1 a5 hi hsi
        exact ⟨my, k1, ⟨k4, k5, fun c hc => k6 c (by omega) (by omega)⟩, K, Ln, Pl, Sz, k2, (k6 70 (by omega) (by omega)).trans a2, ⟨(k6 71 (by omega) (by omega)).trans a3.1, (k6 72 (by omega) (by omega)).trans a3.2.1, (k6 73 (by omega) (by omega)).trans a3.2.2.1, (k6 74 (by omega) (by omega)).trans a3.2.2.2⟩, a4, k3⟩
      · obtain ⟨a1, a2, a3, a4, a5, a6, a7, a8, a9, a10, a11⟩ := hpz
        have sub : ∀ j m, va_up s i none j = some m → s j = some m := fun j m hj => by
          by_cases e : j = i
          · subst e
            rw [va_up_self] at hj
            cases hj
          · rw [va_up_ne _ _ e] at hj
            exact hj
        refine ⟨a1, fun m hm => a2 m ?_, a3, a4, a5, fun j m hj => a6 j m (sub j m hj), a7, a8, by omega, by omega, by omega⟩
        rcases hm with q | ⟨j, j1, j2⟩
        · exact Or.inl q
        · exact Or.inr ⟨j, j1, sub j m j2⟩
theorem op_current (d : Nat) (x : Int32) (hn : n < 1000) (h : Gs Ls xs mem n) : Opr d Ls xs n m_La_current m_Mo_current [.ref 4, .int x, .ref 77] [.ref 69, .int x] mem := by
  obtain ⟨G, P, s, sh, lv, mm, LV, J, Q, L, b, bm, at', y, fa, hcl, hmd, h77, hpz⟩ := h
  obtain ⟨R, E, C, B, Wn, T, U, D, hb, hsb⟩ := Sy_bs hcl.1
  have l4 := Sy_lt hcl.1
  have hP : P ≤ 500 := by have := hpz.2.2.2.2.2.2.2.2.1; omega
  have hc : (x < 0 ∨ nI 4 ≤ x) ∨ ∃ i, x = nI i ∧ i ≤ 3 := by
    rcases int_c x with q | ⟨i, rfl, hi⟩
    · exact Or.inl (Or.inl q)
    · by_cases c : nI 4 ≤ nI i
      · exact Or.inl (Or.inr c)
      · refine Or.inr ⟨i, rfl, ?_⟩
        rcases Nat.lt_or_ge i 4 with e | e
        · omega
        · exact absurd ((nI_leI (by omega) hi).mpr e) c
  rcases hc with c | ⟨i, rfl, hi⟩
  · have k := x_LT_currentR (d + 27) (by omega) (mem := mem) c
    exact opR d (kx := 1) (by omega) hcl hmd h77 hpz (wC_current_0 (d + 29) l4 k) (fun mx hx => m_currentR (d + 28) hx c)
  · rcases hpz.2.2.2.2.2.2.2.1 with ⟨q1, q2⟩ | ⟨q1, q2, q3, q4⟩
    · subst q1
      subst q2
      have k := x_LT_currentN (d + 27) (by omega) hsb.1 hi
      exact opR d (kx := 2) (by omega) hcl hmd h77 hpz (wC_current_3 (d + 29) l4 k) (fun mx hx => m_currentN (d + 28) hx hi)
    · subst q1
      subst q2
      have hsh : ∃ f, Ve mem 30 31 f ∧ sw f (G (y + 1)) := by
        rcases hcl.2.2.1 with q | q
        · exact absurd q (by decide)
        · exact q.2
      obtain ⟨f, f1, f2⟩ := hsh
      have k := x_LT_current (d + 27) hsb.1 f1 hi
      have hm1 : v_mom (G (y + 1)) = y + 1 := hpz.1.1 _ (by omega)
      have e : (if i = 0 then v_pl f else if i = 1 then v_sz f else if i = 2 then v_mom f else v_len f) = (if i = 0 then v_pl (G (y + 1)) else if i = 1 then v_sz (G (y + 1)) else if i = 2 then v_mom (G (y + 1)) else v_len (G (y + 1))) := by
        have h5 := f2 5 (by omega)
        unfold v_pl v_sz v_mom v_len
        rw [h5]
      rw [e] at k
      refine opS d (bm' := bm) (at2 := nI y) h77 hmd hcl (fun c c1 c2 => rfl) (fun g hg => wS_current (d + 29) l4 k hg) (fun mx hx => ?_) (Pz_s hpz)
      have hmo := hx
      obtain ⟨K, Ln, Pl, Sz, a1, a2, a3, a4, a5⟩ := hmo
      exact ⟨_, m_current (d + 28) hP a1 q3 a3 a4 q4 hm1 hi, Mfr_69 _, Mdf_69 hx⟩
end OPS3
