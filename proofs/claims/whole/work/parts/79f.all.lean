/-! LEVELTABLES: mergeAll (own text) -/
section ALL
variable {mem : j_M} {G : Nat → Nat → Int64} {P : Nat} {s : Nat → Option Nat} {sh lv : Int32} {mm : List Nat} {LV : Nat → List TG} {J Q : Nat}
theorem Sx_bs {mem : j_M} {LV : Nat → List TG} (h : Sx mem G P s sh lv mm LV J Q) : ∃ R E C B Wn T U D, Bs mem G mm R E C LV B Wn T U D ∧ Vs mem ∧ LvA mem := by
  obtain ⟨R, E, C, B, Wn, T, U, D, e, cap, h1, h2, -⟩ := h
  exact ⟨R, E, C, B, Wn, T, U, D, h2, h1.2.2.2.2.1, h1.2.2.2.1⟩
/-- all tables of a level go -/
theorem sx_rall (d : Nat) {k : Nat} (h : Sx mem G P s sh lv mm LV J Q) (hk : k < 4) :
    j_ex tb (d + 2) m_Lv_tableCount [.ref (32 + 4 * k)] mem (.inl (some (.int (nI (LV k).length)))) mem ∧ ∃ mem', j_ex tb (d + 5) m_Lv_remove [.ref (32 + 4 * k), .int (nI 0), .int (nI (LV k).length)] mem (.inl none) mem' ∧ Sx mem' G P s sh lv mm (va_up LV k []) J Q ∧ Ox mem mem' := by
  obtain ⟨R, E, C, B, Wn, T, U, D, hb, hv, -⟩ := Sx_bs h
  obtain ⟨fm, hLv⟩ := Lv_of hb hv hk
  have k1 := x_Lv_tableCount d hLv
  rw [lfs_len] at k1
  obtain ⟨m', k2, k3, k4⟩ := sx_rem d (k := k) (a := 0) (b := (LV k).length) h hk (by omega) (Nat.le_refl _)
  refine ⟨k1, m', k2, ?_, k4⟩
  have e : (LV k).take 0 ++ (LV k).drop (LV k).length = [] := by rw [List.drop_length]; rfl
  rw [e] at k3
  exact k3
theorem x_LT_all (d : Nat) (h : Sy mem G P s sh lv mm LV J Q) (hp : Pu G P mm LV) (hP : P ≤ 256) (hs : ∀ i m, s i = some m → m ≤ 500) :
    ∃ mem' LV', j_ex tb (d + 11) m_LT_mergeAll [.ref 4] mem (.inl none) mem' ∧ Sy mem' G P s sh lv mm LV' (J + 1) Q ∧ Pu G P mm LV' ∧ Same G P s (rms mm LV) (rms mm LV') ∧ Ox mem mem' ∧ phi mm LV' ≤ phi mm LV := by
  have hG := hp.1
  have hg := hp.2.1
  obtain ⟨R, E, C, B, Wn, T, U, D, e, cap, ⟨a1, a2, a3, ⟨Hl, a4, a4'⟩, a5, a6⟩, h2, -⟩ := id h
  have hT := h2.2.2.2.2.2.2
  have htot := Pu_tot hp
  obtain ⟨hn, un, aa, sp, fv, fn, W, wq⟩ := a6
  obtain ⟨m1, a', s', k1, wf1, h01, wq1⟩ := x_Wk_clear (d + 8) wq
  have wq1' : Wq m1 hn un a' s' fv fn (gW G (rms mm LV)) := Wq_cl wq1 h01
  have b1 := Bs_sf h2 (Sf_wf wf1)
  have vs1 : Vs m1 := Vs_wq a5 wf1 wq1
  have cnt : ∀ {m : j_M} {k : Nat}, Bs m G mm R E C LV B Wn T U D → Vs m → k < 4 → j_ex tb (d + 9 + 1) m_Lv_count [.ref (32 + 4 * k)] m (.inl (some (.int (nI (lms (LV k)).flatten.length)))) m := fun hb hv hk => by
    obtain ⟨fm, hLv⟩ := Lv_of hb hv hk
    have := x_Lv_count (d + 9) hLv
    rw [sta_all (fun τ hτ => (hb.2.2.2.2.2.2 _ hk τ hτ).2.1)] at this
    exact this
  have c1 := cnt b1 vs1 (show 0 < 4 by omega)
  obtain ⟨m2, x2, y2, k2, wf2, wq2, p21, p22, p23, p24⟩ := gh_cover (d + 4) (x := 0) (y := (lms (LV 0)).flatten.length) wq1' (Bs_Rd b1) (show 1 < 5 by omega) (Nat.le_refl _) (by omega) (h01 1 (by omega))
  have b2 := Bs_sf b1 (Sf_wf wf2)
  have vs2 : Vs m2 := Vs_wq vs1 wf2 wq2
  have c2 := cnt b2 vs2 (show 1 < 4 by omega)
  obtain ⟨m3, x3, y3, k3, wf3, wq3, p31, p32, p33, p34⟩ := gh_cover (d + 4) (x := 0) (y := (lms (LV 1)).flatten.length) wq2 (Bs_Rd b2) (show 2 < 5 by omega) (Nat.le_refl _) (by omega) (by
    have := p21 2 (by omega)
    have := h01 2 (by omega)
    omega)
  have b3 := Bs_sf b2 (Sf_wf wf3)
  have vs3 : Vs m3 := Vs_wq vs2 wf3 wq3
  have c3 := cnt b3 vs3 (show 2 < 4 by omega)
  obtain ⟨m4, x4, y4, k4, wf4, wq4, p41, p42, p43, p44⟩ := gh_cover (d + 4) (x := 0) (y := (lms (LV 2)).flatten.length) wq3 (Bs_Rd b3) (show 3 < 5 by omega) (Nat.le_refl _) (by omega) (by
    have := p21 3 (by omega)
    have := p31 3 (by omega)
    have := h01 3 (by omega)
    omega)
  have b4 := Bs_sf b3 (Sf_wf wf4)
  have vs4 : Vs m4 := Vs_wq vs3 wf4 wq4
  have c4 := cnt b4 vs4 (show 3 < 4 by omega)
  obtain ⟨m5, x5, y5, k5, wf5, wq5, p51, p52, p53, p54⟩ := gh_cover (d + 4) (x := 0) (y := (lms (LV 3)).flatten.length) wq4 (Bs_Rd b4) (show 4 < 5 by omega) (Nat.le_refl _) (by omega) (by
    have := p21 4 (by omega)
    have := p31 4 (by omega)
    have := p41 4 (by omega)
    have := h01 4 (by omega)
    omega)
  have vs5 : Vs m5 := Vs_wq vs4 wf5 wq5
  have sf2 := Sf_trans (Sf_wf wf1) (Sf_wf wf2)
  have sf3 := Sf_trans sf2 (Sf_wf wf3)
  have sf4 := Sf_trans sf3 (Sf_wf wf4)
  have sf5 := Sf_trans sf4 (Sf_wf wf5)
  have sy5 : Sy m5 G P s sh lv mm LV J Q := Sy_sf h sf5 vs5 ⟨_, _, _, _, _, _, _, wq5⟩
  -- which stretch of each run is covered
  have q0 : x5 0 = 0 ∧ y5 0 = 0 := by
    have := p21 0 (by omega)
    have := p31 0 (by omega)
    have := p41 0 (by omega)
    have := p51 0 (by omega)
    have := h01 0 (by omega)
    omega
  have q1 : x5 1 = x2 1 ∧ y5 1 = y2 1 := by
    have := p31 1 (by omega)
    have := p41 1 (by omega)
    have := p51 1 (by omega)
    omega
  have q2 : x5 2 = x3 2 ∧ y5 2 = y3 2 := by
    have := p41 2 (by omega)
    have := p51 2 (by omega)
    omega
  have q3 : x5 3 = x4 3 ∧ y5 3 = y4 3 := p51 3 (by omega)
  have cov : ∀ r, 1 ≤ r → r < 5 → (∀ i, (x5 r ≤ i ∧ i < y5 r) ↔ (0 ≤ i ∧ i < (rms mm LV r).length)) ∧ x5 r ≤ y5 r ∧ y5 r ≤ (rms mm LV r).length := fun r h1 h5 => by
    have : r = 1 ∨ r = 2 ∨ r = 3 ∨ r = 4 := by omega
    rcases this with rfl | rfl | rfl | rfl
    · rw [q1.1, q1.2]
      exact ⟨p22, p23, p24⟩
    · rw [q2.1, q2.2]
      exact ⟨p32, p33, p34⟩
    · rw [q3.1, q3.2]
      exact ⟨p42, p43, p44⟩
    · exact ⟨p52, p53, p54⟩
  have hlt : ∀ r, r < 5 → ∀ x ∈ rms mm LV r, x < 1024 := fun r hr x hx => by
    have := (hg.2.1 r hr x hx).2
    omega
  obtain ⟨ml, ml1, ml2⟩ := srt (gK G) (rms mm LV 1 ++ (rms mm LV 2 ++ (rms mm LV 3 ++ rms mm LV 4))) (fun x hx => by
    rcases List.mem_append.mp hx with w | w
    · exact hlt 1 (by omega) x w
    · rcases List.mem_append.mp w with w | w
      · exact hlt 2 (by omega) x w
      · rcases List.mem_append.mp w with w | w
        · exact hlt 3 (by omega) x w
        · exact hlt 4 (by omega) x w)
  have hml : ∀ t, t ∈ ml ↔ ∃ r, 1 ≤ r ∧ r < 5 ∧ t ∈ rms mm LV r := fun t => by
    rw [ml2]
    simp only [List.mem_append]
    constructor
    · rintro (w | w | w | w)
      · exact ⟨1, by omega, by omega, w⟩
      · exact ⟨2, by omega, by omega, w⟩
      · exact ⟨3, by omega, by omega, w⟩
      · exact ⟨4, by omega, by omega, w⟩
    · rintro ⟨r, h1, h5, w⟩
      have : r = 1 ∨ r = 2 ∨ r = 3 ∨ r = 4 := by omega
      rcases this with rfl | rfl | rfl | rfl
      · exact Or.inl w
      · exact Or.inr (Or.inl w)
      · exact Or.inr (Or.inr (Or.inl w))
      · exact Or.inr (Or.inr (Or.inr w))
  have hbd : ∀ r, r < 5 → x5 r ≤ y5 r ∧ y5 r ≤ (rms mm LV r).length := fun r hr => by
    by_cases c : r = 0
    · subst c
      omega
    · exact (cov r (by omega) hr).2
  have hrl : Rl (gK G) (rms mm LV) x5 y5 ml := by
    refine ⟨ml1, fun t => ?_⟩
    rw [hml]
    constructor
    · rintro ⟨r, h1, h5, w⟩
      obtain ⟨i, i1, i2, i3⟩ := (mem_all t).mp w
      have g := ((cov r h1 h5).1 i).mpr ⟨i1, i2⟩
      exact ⟨r, h5, i, g.1, g.2, i3⟩
    · rintro ⟨r, hr, i, i1, i2, i3⟩
      by_cases c : r = 0
      · subst c
        omega
      · have g := ((cov r (by omega) hr).1 i).mp ⟨i1, i2⟩
        exact ⟨r, by omega, hr, (mem_all t).mpr ⟨i, g.1, g.2, i3⟩⟩
  have hcov := al_cov hg.2.2 hml
  obtain ⟨m6, fs, kp, k6, sx6, ox6, z1, z2, z3, z4, z5, z6⟩ := sy_need d (l := 3) sy5 hp hP hs (by omega) hcov wq5 hbd hrl
  obtain ⟨n7, m7, k7, sx7, ox7⟩ := sx_rall (d + 5) (k := 0) sx6 (by omega)
  obtain ⟨n8, m8, k8, sx8, ox8⟩ := sx_rall (d + 5) (k := 1) sx7 (by omega)
  obtain ⟨n9, m9, k9, sx9, ox9⟩ := sx_rall (d + 5) (k := 2) sx8 (by omega)
  obtain ⟨n10, m10, k10, sx10, ox10⟩ := sx_rall (d + 5) (k := 3) sx9 (by omega)
  generalize e7 : (va_up LV 4 fs 0).length = N0 at n7 k7
  generalize e8 : (va_up (va_up LV 4 fs) 0 [] 1).length = N1 at n8 k8
  generalize e9 : (va_up (va_up (va_up LV 4 fs) 0 []) 1 [] 2).length = N2 at n9 k9
  generalize e10 : (va_up (va_up (va_up (va_up LV 4 fs) 0 []) 1 []) 2 [] 3).length = N3 at n10 k10
  generalize hLa : va_up (va_up (va_up (va_up (va_up LV 4 fs) 0 []) 1 []) 2 []) 3 [] = La at sx10
  have la : ∀ k, k < 4 → La k = [] := fun k hk => by
    rw [← hLa]
    have : k = 0 ∨ k = 1 ∨ k = 2 ∨ k = 3 := by omega
    rcases this with rfl | rfl | rfl | rfl <;> rfl
  have la4 : La 4 = fs := by rw [← hLa]; rfl
  obtain ⟨m11, k11, sy11, ox11⟩ := sx_ins (d + 4) (k := 3) (a := 0) sx10 (by omega) (by rw [la 3 (by omega), la4]; simp; omega) (by
      rw [la 3 (by omega), la4, z3]
      have h1 := pg kp ml (So_nd z2) z1.1
      have h3 := pgr (a := 1) (n := P) (So_nd ml1) (fun x hx => by
        obtain ⟨r, g1, g2, g3⟩ := (hml x).mp hx
        have := hg.2.1 r g2 x g3
        have := hp.2.2.1 r g2 x g3
        omega)
      show 0 + kp.length < _
      omega) (by omega)
  rw [la 3 (by omega), la4] at sy11
  have eins : ([] : List TG).take 0 ++ fs ++ ([] : List TG).drop 0 = fs := by simp
  rw [eins] at sy11
  generalize hLc : va_up (va_up La 3 fs) 4 [] = Lc at sy11
  have lc3 : Lc 3 = fs := by rw [← hLc]; rfl
  have lc : ∀ k, k < 3 → Lc k = [] := fun k hk => by
    rw [← hLc, va_up_ne _ _ (by omega), va_up_ne _ _ (by omega)]
    exact la k (by omega)
  have hms := al_ms (ms' := rms mm Lc) (kp := kp) hg.2.2 hml rfl (fun r h1 h4 => by
    unfold rms
    rw [if_neg (by omega), lc (r - 1) (by omega)]
    rfl) (by
    show (lms (Lc 3)).flatten = kp
    rw [lc3, z3])
  have hmem : ∀ r, r < 5 → ∀ t ∈ rms mm Lc r, 1 ≤ t ∧ t ≤ 500 ∧ t ≤ P := fun r hr t ht => by
    rcases (hms r hr t).mp ht with q | q
    · have := hg.2.1 r hr t q.1
      have := hp.2.2.1 r hr t q.1
      omega
    · obtain ⟨r', g1, g2⟩ := hcov.1 t (z1.1 t q.2)
      have := hg.2.1 r' (by omega) t g2
      have := hp.2.2.1 r' (by omega) t g2
      omega
  have hpu : Pu G P mm Lc := by
    refine ⟨hG, ⟨fun r hr => ?_, fun r hr t ht => ⟨(hmem r hr t ht).1, (hmem r hr t ht).2.1⟩, Cov_age hg.2.2 hcov z1.1 hms⟩, fun r hr t ht => (hmem r hr t ht).2.2, fun k hk => ?_⟩
    · by_cases c : r = 0
      · subst c
        exact hg.1 0 hr
      · by_cases c4 : r = 4
        · subst c4
          show So (gK G) (lms (Lc 3)).flatten
          rw [lc3, z3]
          exact z2
        · unfold rms
          rw [if_neg c, lc (r - 1) (by omega)]
          exact List.Pairwise.nil
    · by_cases c : k = 3
      · subst c
        rw [lc3]
        exact ⟨z4, z5⟩
      · rw [lc k (by omega)]
        exact ⟨List.Pairwise.nil, fun q hq => by cases hq⟩
  have hphi : phi mm Lc ≤ phi mm LV := by
    unfold phi
    rw [lc 0 (by omega), lc 1 (by omega), lc 2 (by omega)]
    show 4 * mm.length + 3 * 0 + 2 * 0 + 0 ≤ _
    omega
  refine ⟨m11, Lc, ?_, sy11, hpu, fun m hm t => Cov_val hg.2.2 hcov (by omega) z1 hms hm t, Ox_trans (Ox_sf sf5) (Ox_trans ox6 (Ox_trans ox7 (Ox_trans ox8 (Ox_trans ox9 (Ox_trans ox10 ox11))))), hphi⟩
  have f4 : ∀ {m : j_M}, Sf mem m → m.2.2 4 = some (ltC sh lv) ∧ m.2.2 18 = some (.inl (5, 4, .inr (.inr (.inr (.inr Hl))))) := fun hf => ⟨(hf.2.2 4 (by unfold scell; omega)).trans a1, (hf.2.2 18 (by unfold scell; omega)).trans a4⟩
  obtain ⟨l1, v1⟩ := f4 (Sf_wf wf1)
  obtain ⟨l2, v2⟩ := f4 sf2
  obtain ⟨l3, v3⟩ := f4 sf3
  obtain ⟨l4, v4⟩ := f4 sf4
  obtain ⟨l5, v5⟩ := f4 sf5
  unfold ltC at l1 l2 l3 l4 l5
  have l0 : mem.2.2 4 = _ := a1
  have w0 := wq.1
  have w1 := wq1.1
  have w2 := wq2.1
  have w3 := wq3.1
  have w4 := wq4.1
  have o1 := (b1.2.2.2.1 0 (by omega)).1.1
  have o2 := (b2.2.2.2.1 1 (by omega)).1.1
  have o3 := (b3.2.2.2.1 2 (by omega)).1.1
  have o4 := (b4.2.2.2.1 3 (by omega)).1.1
  have g6 := Sx_lt sx6
  have g7 := Sx_lt sx7
  have g8 := Sx_lt sx8
  have g9 := Sx_lt sx9
  have g10 := Sx_lt sx10
  unfold ltC at g6 g7 g8 g9 g10
  obtain ⟨f6, t6⟩ := Sx_lv sx6 (show 0 < 4 by omega)
  obtain ⟨f7, t7⟩ := Sx_lv sx7 (show 1 < 4 by omega)
  obtain ⟨f8, t8⟩ := Sx_lv sx8 (show 2 < 4 by omega)
  obtain ⟨f9, t9⟩ := Sx_lv sx9 (show 3 < 4 by omega)
  obtain ⟨f10, t10⟩ := Sx_lv sx10 (show 3 < 4 by omega)
  obtain ⟨_, _, _, _, _, _, _, _, _, _, H6, u6, u6'⟩ := Sx_bs sx6
  obtain ⟨_, _, _, _, _, _, _, _, _, _, H7, u7, u7'⟩ := Sx_bs sx7
  obtain ⟨_, _, _, _, _, _, _, _, _, _, H8, u8, u8'⟩ := Sx_bs sx8
  obtain ⟨_, _, _, _, _, _, _, _, _, _, H9, u9, u9'⟩ := Sx_bs sx9
  obtain ⟨_, _, _, _, _, _, _, _, _, _, H10, u10, u10'⟩ := Sx_bs sx10
  obtain ⟨sm10, bs10, wp10⟩ := Sx_wp sx10
  have kt := x_Wr_tables (d + 9) wp10
  have w66 := wp10.1
  have n7 := ex_mono _ (d + 10) _ _ _ _ _ (by omega) n7
  have n8 := ex_mono _ (d + 10) _ _ _ _ _ (by omega) n8
  have n9 := ex_mono _ (d + 10) _ _ _ _ _ (by omega) n9
  have n10 := ex_mono _ (d + 10) _ _ _ _ _ (by omega) n10
  refine ⟨e_LT_mergeAll, rfl, Nat.le_of_ble_eq_true rfl, ?_⟩
  repeat (first | refine ev_go rfl (by rfl) ?_ | refine ev_gf rfl (by assumption) (by rfl) (by rfl) ?_)
  refine ev_cv (as := []) rfl rfl rfl (by assumption) (by rfl) (by rfl) (k1) ?_
  repeat (first | refine ev_go rfl (by rfl) ?_ | refine ev_gf rfl (by assumption) (by rfl) (by rfl) ?_)
  refine ev_alqN (i := 0) rfl (by assumption) (by rfl) (by omega) (by omega) ?_
  rw [a4' 0 (by omega)]
  refine ev_cv (as := []) rfl rfl rfl (by assumption) (by rfl) (by rfl) (c1) ?_
  refine ev_cv (as := [.int (nI 1), .int (nI 0), .int (nI (lms (LV 0)).flatten.length)]) rfl rfl rfl (by assumption) (by rfl) (by rfl) (k2) ?_
  repeat (first | refine ev_go rfl (by rfl) ?_ | refine ev_gf rfl (by assumption) (by rfl) (by rfl) ?_)
  refine ev_alqN (i := 1) rfl (by assumption) (by rfl) (by omega) (by omega) ?_
  rw [a4' 1 (by omega)]
  refine ev_cv (as := []) rfl rfl rfl (by assumption) (by rfl) (by rfl) (c2) ?_
  refine ev_cv (as := [.int (nI 2), .int (nI 0), .int (nI (lms (LV 1)).flatten.length)]) rfl rfl rfl (by assumption) (by rfl) (by rfl) (k3) ?_
  repeat (first | refine ev_go rfl (by rfl) ?_ | refine ev_gf rfl (by assumption) (by rfl) (by rfl) ?_)
  refine ev_alqN (i := 2) rfl (by assumption) (by rfl) (by omega) (by omega) ?_
  rw [a4' 2 (by omega)]
  refine ev_cv (as := []) rfl rfl rfl (by assumption) (by rfl) (by rfl) (c3) ?_
  refine ev_cv (as := [.int (nI 3), .int (nI 0), .int (nI (lms (LV 2)).flatten.length)]) rfl rfl rfl (by assumption) (by rfl) (by rfl) (k4) ?_
  repeat (first | refine ev_go rfl (by rfl) ?_ | refine ev_gf rfl (by assumption) (by rfl) (by rfl) ?_)
  refine ev_alqN (i := 3) rfl (by assumption) (by rfl) (by omega) (by omega) ?_
  rw [a4' 3 (by omega)]
  refine ev_cv (as := []) rfl rfl rfl (by assumption) (by rfl) (by rfl) (c4) ?_
  refine ev_cv (as := [.int (nI 4), .int (nI 0), .int (nI (lms (LV 3)).flatten.length)]) rfl rfl rfl (by assumption) (by rfl) (by rfl) (k5) ?_
  repeat (first | refine ev_go rfl (by rfl) ?_ | refine ev_gf rfl (by assumption) (by rfl) (by rfl) ?_)
  refine ev_cv (as := [.int (nI 3)]) rfl rfl rfl (by assumption) (by rfl) (by rfl) (k6) ?_
  repeat (first | refine ev_go rfl (by rfl) ?_ | refine ev_gf rfl (by assumption) (by rfl) (by rfl) ?_)
  refine ev_alqN (i := 0) rfl (by assumption) (by rfl) (by omega) (by omega) ?_
  rw [u6' 0 (by omega)]
  repeat (first | refine ev_go rfl (by rfl) ?_ | refine ev_gf rfl (by assumption) (by rfl) (by rfl) ?_)
  refine ev_alqN (i := 0) rfl (by assumption) (by rfl) (by omega) (by omega) ?_
  rw [u6' 0 (by omega)]
  refine ev_cv (as := []) rfl rfl rfl (by assumption) (by rfl) (by rfl) (n7) ?_
  refine ev_cv (as := [.int (nI 0), .int (nI N0)]) rfl rfl rfl (by assumption) (by rfl) (by rfl) (k7) ?_
  repeat (first | refine ev_go rfl (by rfl) ?_ | refine ev_gf rfl (by assumption) (by rfl) (by rfl) ?_)
  refine ev_alqN (i := 1) rfl (by assumption) (by rfl) (by omega) (by omega) ?_
  rw [u7' 1 (by omega)]
  repeat (first | refine ev_go rfl (by rfl) ?_ | refine ev_gf rfl (by assumption) (by rfl) (by rfl) ?_)
  refine ev_alqN (i := 1) rfl (by assumption) (by rfl) (by omega) (by omega) ?_
  rw [u7' 1 (by omega)]
  refine ev_cv (as := []) rfl rfl rfl (by assumption) (by rfl) (by rfl) (n8) ?_
  refine ev_cv (as := [.int (nI 0), .int (nI N1)]) rfl rfl rfl (by assumption) (by rfl) (by rfl) (k8) ?_
  repeat (first | refine ev_go rfl (by rfl) ?_ | refine ev_gf rfl (by assumption) (by rfl) (by rfl) ?_)
  refine ev_alqN (i := 2) rfl (by assumption) (by rfl) (by omega) (by omega) ?_
  rw [u8' 2 (by omega)]
  repeat (first | refine ev_go rfl (by rfl) ?_ | refine ev_gf rfl (by assumption) (by rfl) (by rfl) ?_)
  refine ev_alqN (i := 2) rfl (by assumption) (by rfl) (by omega) (by omega) ?_
  rw [u8' 2 (by omega)]
  refine ev_cv (as := []) rfl rfl rfl (by assumption) (by rfl) (by rfl) (n9) ?_
  refine ev_cv (as := [.int (nI 0), .int (nI N2)]) rfl rfl rfl (by assumption) (by rfl) (by rfl) (k9) ?_
  repeat (first | refine ev_go rfl (by rfl) ?_ | refine ev_gf rfl (by assumption) (by rfl) (by rfl) ?_)
  refine ev_alqN (i := 3) rfl (by assumption) (by rfl) (by omega) (by omega) ?_
  rw [u9' 3 (by omega)]
  repeat (first | refine ev_go rfl (by rfl) ?_ | refine ev_gf rfl (by assumption) (by rfl) (by rfl) ?_)
  refine ev_alqN (i := 3) rfl (by assumption) (by rfl) (by omega) (by omega) ?_
  rw [u9' 3 (by omega)]
  refine ev_cv (as := []) rfl rfl rfl (by assumption) (by rfl) (by rfl) (n10) ?_
  refine ev_cv (as := [.int (nI 0), .int (nI N3)]) rfl rfl rfl (by assumption) (by rfl) (by rfl) (k10) ?_
  repeat (first | refine ev_go rfl (by rfl) ?_ | refine ev_gf rfl (by assumption) (by rfl) (by rfl) ?_)
  refine ev_alqN (i := 3) rfl (by assumption) (by rfl) (by omega) (by omega) ?_
  rw [u10' 3 (by omega)]
  repeat (first | refine ev_go rfl (by rfl) ?_ | refine ev_gf rfl (by assumption) (by rfl) (by rfl) ?_)
  refine ev_cv (as := []) rfl rfl rfl (by assumption) (by rfl) (by rfl) (kt) ?_
  refine ev_cv (as := [.int (nI 0), .ref 67]) rfl rfl rfl (by assumption) (by rfl) (by rfl) (k11) ?_
  exact j_ev.ret rfl
end ALL
