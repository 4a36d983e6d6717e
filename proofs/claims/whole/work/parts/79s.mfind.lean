/-! THE REFERENCE: find, stands, seek (own text) -/
theorem v_rng7 : ∀ i, i < 8 → ¬ nI i < (-1 : Int32) ∧ nI i ≤ (7 : Int32) ∧ ¬ nI i < (0 : Int32) ∧ (0 : Int32) ≤ nI i := by decide +kernel
theorem le7 {x : Int32} (h : (8 : Int32) ≤ x) : ¬ x ≤ (7 : Int32) := fun q => by
  have h1 := Int32.le_iff_toInt_le.mp h
  have h2 := Int32.le_iff_toInt_le.mp q
  have e1 : (8 : Int32).toInt = 8 := by decide
  have e2 : (7 : Int32).toInt = 7 := by decide
  omega
section MFIND
variable {mem : j_M} {K Ln Pl Sz : Nat → Int32} {G : Nat → Nat → Int64} {P : Nat} {fa sd at' : Int32} {tp n m : Nat} {b : Nat → Int32} {s : Nat → Option Nat}
theorem m_findR (d : Nat) {md : Nat} {x : Int32} (h : Mo mem fa tp md sd at') (ht : tp ≤ 60) (hn : x < -1 ∨ 8 ≤ x ∨ ¬ (1 ≤ tp ∧ tp ≤ 40)) : j_ex tb (d + 2) m_Mo_find [.ref 69, .int x] mem (.inl (some (.int 0))) (j_set mem 69 (moC 1 tp md sd at')) := by
  have mo1 : Mo (j_set mem 69 (moC 0 tp md sd at')) 0 tp md sd at' := rfl
  have kk := x_Mo_keyed d mo1 ht
  have kf := x_Mo_fail d 1 mo1
  rw [st_st] at kf
  have o1 := h
  unfold Mo moC at o1
  have o2 : (j_set mem 69 (moC 0 tp md sd at')).2.2 69 = some (.inr (11, [.int 0, .int (nI tp), .int (nI md), .int sd, .int at', .ref 70, .ref 71, .ref 72, .ref 73, .ref 74, .ref 75, .ref 76])) := rfl
  refine ⟨e_Mo_find, rfl, Nat.le_of_ble_eq_true rfl, ?_⟩
  repeat (first | refine ev_go rfl (by rfl) ?_ | refine ev_gf rfl (by assumption) (by rfl) (by rfl) ?_)
  refine ev_pf rfl (by assumption) (by rfl) (by rfl) (by rfl) ?_
  refine ev_m (mem' := j_set mem 69 (moC 0 tp md sd at')) rfl ?_
  generalize j_set mem 69 (moC 0 tp md sd at') = m1 at *
  generalize j_set mem 69 (moC 1 tp md sd at') = m2 at *
  have fin : j_ev (d + 2) (j_ex tb (d + 1)) (j_tab q_Mo_find) [] (.inl (some (.int 0))) (m2) 23 [some (.ref 69), some (.int x), none, none, none] [] m1 := by
    repeat (first | refine ev_go rfl (by rfl) ?_ | refine ev_gf rfl (by assumption) (by rfl) (by rfl) ?_)
    refine ev_cv (as := [.int 1]) rfl rfl rfl (by assumption) (by rfl) (by rfl) (kf) ?_
    exact j_ev.ret rfl
  by_cases c0 : 1 ≤ tp ∧ tp ≤ 40
  · rw [if_pos c0] at kk
    repeat (first | refine ev_go rfl (by rfl) ?_ | refine ev_gf rfl (by assumption) (by rfl) (by rfl) ?_)
    refine ev_cv (as := []) rfl rfl rfl (by assumption) (by rfl) (by rfl) (kk) ?_
    repeat (first | refine ev_go rfl (by rfl) ?_ | refine ev_gf rfl (by assumption) (by rfl) (by rfl) ?_)
    by_cases c1 : x < -1
    · refine ev_icT rfl (decide_eq_true c1) ?_
      exact fin
    · refine ev_icF rfl (decide_eq_false c1) ?_
      repeat (first | refine ev_go rfl (by rfl) ?_ | refine ev_gf rfl (by assumption) (by rfl) (by rfl) ?_)
      have c2 : (8 : Int32) ≤ x := by
        rcases hn with q | q | q
        · exact absurd q c1
        · exact q
        · exact absurd c0 q
      refine ev_icF rfl (decide_eq_false (le7 c2)) ?_
      exact fin
  · rw [if_neg c0] at kk
    repeat (first | refine ev_go rfl (by rfl) ?_ | refine ev_gf rfl (by assumption) (by rfl) (by rfl) ?_)
    refine ev_cv (as := []) rfl rfl rfl (by assumption) (by rfl) (by rfl) (kk) ?_
    repeat (first | exact fin | refine ev_go rfl (by rfl) ?_ | refine ev_gf rfl (by assumption) (by rfl) (by rfl) ?_)
/-- up to the moment that the view sees -/
theorem m_findS (d : Nat) {md i : Nat} (h : Mo mem fa tp md sd at') (hv : Mv mem s) (hn : 1 ≤ tp ∧ tp ≤ 40) (hi : i < 8) (hs : s i = none) : j_ex tb (d + 2) m_Mo_find [.ref 69, .int (nI i)] mem (.inl (some (.int 0))) (j_set mem 69 (moC 2 0 md sd at')) := by
  have mo1 : Mo (j_set mem 69 (moC 0 tp md sd at')) 0 tp md sd at' := rfl
  have kk := x_Mo_keyed d mo1 (by omega)
  rw [if_pos hn] at kk
  have mo2 : Mo (j_set mem 69 (moC 0 0 md sd at')) 0 0 md sd at' := rfl
  have kf := x_Mo_fail d 2 mo2
  rw [st_st] at kf
  obtain ⟨⟨op, p1, p2⟩, -⟩ := hv
  have q1 := p2 i hi
  rw [hs] at q1
  have p3 : (j_set mem 69 (moC 0 0 md sd at')).2.2 75 = _ := p1
  have o1 := h
  unfold Mo moC at o1
  have o2 : (j_set mem 69 (moC 0 tp md sd at')).2.2 69 = some (.inr (11, [.int 0, .int (nI tp), .int (nI md), .int sd, .int at', .ref 70, .ref 71, .ref 72, .ref 73, .ref 74, .ref 75, .ref 76])) := rfl
  have o3 : (j_set mem 69 (moC 0 0 md sd at')).2.2 69 = some (.inr (11, [.int 0, .int (nI 0), .int (nI md), .int sd, .int at', .ref 70, .ref 71, .ref 72, .ref 73, .ref 74, .ref 75, .ref 76])) := rfl
  have e3 : j_set (j_set mem 69 (moC 0 tp md sd at')) 69 (moC 0 0 md sd at') = j_set mem 69 (moC 0 0 md sd at') := st_st _ _ _ _
  have hr := v_rng7 i hi
  generalize hm1 : j_set mem 69 (moC 0 tp md sd at') = m1 at *
  generalize hm2 : j_set mem 69 (moC 0 0 md sd at') = m2 at *
  generalize hm3 : j_set mem 69 (moC 2 0 md sd at') = m3 at *
  refine ⟨e_Mo_find, rfl, Nat.le_of_ble_eq_true rfl, ?_⟩
  repeat (first | refine ev_go rfl (by rfl) ?_ | refine ev_gf rfl (by assumption) (by rfl) (by rfl) ?_)
  refine ev_pf rfl (by assumption) (by rfl) (by rfl) (by rfl) ?_
  refine ev_m (mem' := m1) hm1 ?_
  repeat (first | refine ev_go rfl (by rfl) ?_ | refine ev_gf rfl (by assumption) (by rfl) (by rfl) ?_)
  refine ev_cv (as := []) rfl rfl rfl (by assumption) (by rfl) (by rfl) (kk) ?_
  repeat (first | refine ev_go rfl (by rfl) ?_ | refine ev_gf rfl (by assumption) (by rfl) (by rfl) ?_)
  refine ev_icF rfl (decide_eq_false hr.1) ?_
  repeat (first | refine ev_go rfl (by rfl) ?_ | refine ev_gf rfl (by assumption) (by rfl) (by rfl) ?_)
  refine ev_icT rfl (decide_eq_true hr.2.1) ?_
  repeat (first | refine ev_go rfl (by rfl) ?_ | refine ev_gf rfl (by assumption) (by rfl) (by rfl) ?_)
  refine ev_pf rfl (by assumption) (by rfl) (by rfl) (by rfl) ?_
  refine ev_m (mem' := m2) e3 ?_
  repeat (first | refine ev_go rfl (by rfl) ?_ | refine ev_gf rfl (by assumption) (by rfl) (by rfl) ?_)
  refine ev_ifF rfl (decide_eq_false hr.2.2.1) ?_
  repeat (first | refine ev_go rfl (by rfl) ?_ | refine ev_gf rfl (by assumption) (by rfl) (by rfl) ?_)
  refine ev_albN (i := i) rfl (by assumption) (by rfl) (by omega) (by omega) ?_
  rw [q1]
  repeat (first | refine ev_go rfl (by rfl) ?_ | refine ev_gf rfl (by assumption) (by rfl) (by rfl) ?_)
  refine ev_cv (as := [.int 2]) rfl rfl rfl (by assumption) (by rfl) (by rfl) (kf) ?_
  exact j_ev.ret rfl
theorem m_findV (d : Nat) {x : Int32} (hP : P ≤ 500) (h : Mo mem fa tp P sd at') (h70 : mem.2.2 70 = some (.inl (2, 60, .inl b))) (ha : Mar mem K Ln Pl Sz) (hh : Mh K Ln Pl Sz G P) (hv : Mv mem s) (hn : 1 ≤ tp ∧ tp ≤ 40) (hx : Sees P s x m) (hm : m ≤ P) :
    (∃ t, hst (gK G) (gT G) m t ∧ gK G t = ky b tp ∧ j_ex tb (d + 2) m_Mo_find [.ref 69, .int x] mem (.inl (some (.int (nI (v_pl (G t)))))) (j_set mem 69 (moC 0 0 P sd (nI (t - 1))))) ∨
    ((¬ ∃ t, hst (gK G) (gT G) m t ∧ gK G t = ky b tp) ∧ j_ex tb (d + 2) m_Mo_find [.ref 69, .int x] mem (.inl (some (.int 0))) (j_set mem 69 (moC 3 0 P sd (-1)))) := by
  have mo1 : Mo (j_set mem 69 (moC 0 tp P sd at')) 0 tp P sd at' := rfl
  have kk := x_Mo_keyed d mo1 (by omega)
  rw [if_pos hn] at kk
  have mo3 : Mo (j_set mem 69 (moC 0 0 P sd (-1))) 0 0 P sd (-1) := rfl
  have kf := x_Mo_fail d 3 mo3
  rw [st_st] at kf
  obtain ⟨⟨op, p1, p2⟩, sv, p4, p5⟩ := hv
  have o1 := h
  unfold Mo moC at o1
  have o2 : (j_set mem 69 (moC 0 tp P sd at')).2.2 69 = some (.inr (11, [.int 0, .int (nI tp), .int (nI P), .int sd, .int at', .ref 70, .ref 71, .ref 72, .ref 73, .ref 74, .ref 75, .ref 76])) := rfl
  have o3 : (j_set mem 69 (moC 0 0 P sd at')).2.2 69 = some (.inr (11, [.int 0, .int (nI 0), .int (nI P), .int sd, .int at', .ref 70, .ref 71, .ref 72, .ref 73, .ref 74, .ref 75, .ref 76])) := rfl
  have o4 : (j_set mem 69 (moC 0 0 P sd (-1))).2.2 69 = some (.inr (11, [.int 0, .int (nI 0), .int (nI P), .int sd, .int (-1), .ref 70, .ref 71, .ref 72, .ref 73, .ref 74, .ref 75, .ref 76])) := rfl
  have e3 : j_set (j_set mem 69 (moC 0 tp P sd at')) 69 (moC 0 0 P sd at') = j_set mem 69 (moC 0 0 P sd at') := st_st _ _ _ _
  have e4 : j_set (j_set mem 69 (moC 0 0 P sd at')) 69 (moC 0 0 P sd (-1)) = j_set mem 69 (moC 0 0 P sd (-1)) := st_st _ _ _ _
  have p13 : (j_set mem 69 (moC 0 0 P sd at')).2.2 75 = _ := p1
  have p43 : (j_set mem 69 (moC 0 0 P sd at')).2.2 76 = _ := p4
  have a4 : Mar (j_set mem 69 (moC 0 0 P sd (-1))) K Ln Pl Sz := Mar_69 ha _
  have t4 : (j_set mem 69 (moC 0 0 P sd (-1))).2.2 70 = _ := h70
  have s73' : ∀ w, (j_set mem 69 (moC 0 0 P sd (nI w))).2.2 73 = some (.inl (0, 500, .inl Pl)) := fun w => ha.2.2.1
  have e5 : ∀ w, j_set (j_set mem 69 (moC 0 0 P sd (-1))) 69 (moC 0 0 P sd (nI w)) = j_set mem 69 (moC 0 0 P sd (nI w)) := fun w => st_st _ _ _ _
  generalize hm1 : j_set mem 69 (moC 0 tp P sd at') = m1 at *
  generalize hm2 : j_set mem 69 (moC 0 0 P sd at') = m2 at *
  generalize hm3 : j_set mem 69 (moC 0 0 P sd (-1)) = m3 at *
  generalize hm4 : j_set mem 69 (moC 3 0 P sd (-1)) = m4 at *
  have pre : ∀ o mo, j_ev (d + 2) (j_ex tb (d + 1)) (j_tab q_Mo_find) [] (o) (mo) 86 [some (.ref 69), some (.int x), some (.int (nI tp)), some (.int (nI m)), some (.int (nI m - 1))] [] m3 → j_ex tb (d + 2) m_Mo_find [.ref 69, .int x] mem o mo := by
    intro o mo kkk
    have post : j_ev (d + 2) (j_ex tb (d + 1)) (j_tab q_Mo_find) [] (o) (mo) 75 [some (.ref 69), some (.int x), some (.int (nI tp)), none, none] [.int (nI m)] m2 := by
      repeat (first | refine ev_go rfl (by rfl) ?_ | refine ev_gf rfl (by assumption) (by rfl) (by rfl) ?_)
      refine ev_pf rfl (by assumption) (by rfl) (by rfl) (by rfl) ?_
      refine ev_m (mem' := m3) e4 ?_
      repeat (first | exact kkk | refine ev_go rfl (by rfl) ?_ | refine ev_gf rfl (by assumption) (by rfl) (by rfl) ?_)
    clear kkk
    rcases hx with ⟨rfl, rfl⟩ | ⟨i, rfl, hi, hsi⟩
    · refine ⟨e_Mo_find, rfl, Nat.le_of_ble_eq_true rfl, ?_⟩
      repeat (first | refine ev_go rfl (by rfl) ?_ | refine ev_gf rfl (by assumption) (by rfl) (by rfl) ?_)
      refine ev_pf rfl (by assumption) (by rfl) (by rfl) (by rfl) ?_
      refine ev_m (mem' := m1) hm1 ?_
      repeat (first | refine ev_go rfl (by rfl) ?_ | refine ev_gf rfl (by assumption) (by rfl) (by rfl) ?_)
      refine ev_cv (as := []) rfl rfl rfl (by assumption) (by rfl) (by rfl) (kk) ?_
      repeat (first | refine ev_go rfl (by rfl) ?_ | refine ev_gf rfl (by assumption) (by rfl) (by rfl) ?_)
      refine ev_pf rfl (by assumption) (by rfl) (by rfl) (by rfl) ?_
      refine ev_m (mem' := m2) e3 ?_
      repeat (first | exact post | refine ev_go rfl (by rfl) ?_ | refine ev_gf rfl (by assumption) (by rfl) (by rfl) ?_)
    · have hr := v_rng7 i hi
      have q1 := p2 i hi
      rw [hsi] at q1
      have q2 := p5 i m hi hsi
      rw [← q2] at post
      refine ⟨e_Mo_find, rfl, Nat.le_of_ble_eq_true rfl, ?_⟩
      repeat (first | refine ev_go rfl (by rfl) ?_ | refine ev_gf rfl (by assumption) (by rfl) (by rfl) ?_)
      refine ev_pf rfl (by assumption) (by rfl) (by rfl) (by rfl) ?_
      refine ev_m (mem' := m1) hm1 ?_
      repeat (first | refine ev_go rfl (by rfl) ?_ | refine ev_gf rfl (by assumption) (by rfl) (by rfl) ?_)
      refine ev_cv (as := []) rfl rfl rfl (by assumption) (by rfl) (by rfl) (kk) ?_
      repeat (first | refine ev_go rfl (by rfl) ?_ | refine ev_gf rfl (by assumption) (by rfl) (by rfl) ?_)
      refine ev_icF rfl (decide_eq_false hr.1) ?_
      repeat (first | refine ev_go rfl (by rfl) ?_ | refine ev_gf rfl (by assumption) (by rfl) (by rfl) ?_)
      refine ev_icT rfl (decide_eq_true hr.2.1) ?_
      repeat (first | refine ev_go rfl (by rfl) ?_ | refine ev_gf rfl (by assumption) (by rfl) (by rfl) ?_)
      refine ev_pf rfl (by assumption) (by rfl) (by rfl) (by rfl) ?_
      refine ev_m (mem' := m2) e3 ?_
      repeat (first | refine ev_go rfl (by rfl) ?_ | refine ev_gf rfl (by assumption) (by rfl) (by rfl) ?_)
      refine ev_ifF rfl (decide_eq_false hr.2.2.1) ?_
      repeat (first | refine ev_go rfl (by rfl) ?_ | refine ev_gf rfl (by assumption) (by rfl) (by rfl) ?_)
      refine ev_albN (i := i) rfl (by assumption) (by rfl) (by omega) (by omega) ?_
      rw [q1]
      repeat (first | refine ev_go rfl (by rfl) ?_ | refine ev_gf rfl (by assumption) (by rfl) (by rfl) ?_)
      refine ev_ifT rfl (decide_eq_true hr.2.2.2) ?_
      repeat (first | refine ev_go rfl (by rfl) ?_ | refine ev_gf rfl (by assumption) (by rfl) (by rfl) ?_)
      refine ev_aliN (i := i) rfl (by assumption) (by omega) (by omega) ?_
      exact post
  have loop : ∀ w, w ≤ m → ∃ w', Nwt (gK G) (ky b tp) w w' ∧ ∀ o mo, j_ev (d + 2) (j_ex tb (d + 1)) (j_tab q_Mo_find) [] (o) (mo) 107 [some (.ref 69), some (.int x), some (.int (nI tp)), some (.int (nI m)), some (.int (nI w' - 1))] [] m3 → j_ev (d + 2) (j_ex tb (d + 1)) (j_tab q_Mo_find) [] (o) (mo) 86 [some (.ref 69), some (.int x), some (.int (nI tp)), some (.int (nI m)), some (.int (nI w - 1))] [] m3 := by
    intro w
    induction w with
    | zero =>
      intro _
      refine ⟨0, ⟨Nat.le_refl _, fun t a b => by omega, Or.inl rfl⟩, fun o mo kk => ?_⟩
      repeat (first | exact kk | refine ev_go rfl (by rfl) ?_ | refine ev_gf rfl (by assumption) (by rfl) (by rfl) ?_)
    | succ w ih =>
      intro hw
      obtain ⟨r, k1, k2, k3⟩ := m_cmpT d (v := w) hP mo3 t4 a4 hh (by omega) hn.2
      by_cases c : gK G (w + 1) = ky b tp
      · refine ⟨w + 1, ⟨Nat.le_refl _, fun t a b => by omega, Or.inr c⟩, fun o mo kk => ?_⟩
        rw [nI_pred] at kk ⊢
        rw [k3.mpr c] at k1
        repeat (first | refine ev_go rfl (by rfl) ?_ | refine ev_gf rfl (by assumption) (by rfl) (by rfl) ?_)
        refine ev_ifF rfl (by exact b_nlt (a := w) (b := 0) (by omega) (by omega) (by omega)) ?_
        repeat (first | refine ev_go rfl (by rfl) ?_ | refine ev_gf rfl (by assumption) (by rfl) (by rfl) ?_)
        refine ev_cv (as := [.int (nI w), .int (nI tp)]) rfl rfl rfl (by assumption) (by rfl) (by rfl) (k1) ?_
        repeat (first | exact kk | refine ev_go rfl (by rfl) ?_ | refine ev_gf rfl (by assumption) (by rfl) (by rfl) ?_)
      · obtain ⟨w', ⟨q1, q2, q3⟩, q4⟩ := ih (by omega)
        refine ⟨w', ⟨by omega, fun t a b => ?_, q3⟩, fun o mo kk => ?_⟩
        · by_cases e : t = w + 1
          · rw [e]; exact c
          · exact q2 t a (by omega)
        · have zz := q4 o mo kk
          rw [← w_m1] at zz
          rw [nI_pred]
          repeat (first | refine ev_go rfl (by rfl) ?_ | refine ev_gf rfl (by assumption) (by rfl) (by rfl) ?_)
          refine ev_ifF rfl (by exact b_nlt (a := w) (b := 0) (by omega) (by omega) (by omega)) ?_
          repeat (first | refine ev_go rfl (by rfl) ?_ | refine ev_gf rfl (by assumption) (by rfl) (by rfl) ?_)
          refine ev_cv (as := [.int (nI w), .int (nI tp)]) rfl rfl rfl (by assumption) (by rfl) (by rfl) (k1) ?_
          refine ev_ifF rfl (by exact decide_eq_false (fun q => c (k3.mp q))) ?_
          repeat (first | exact zz | refine ev_go rfl (by rfl) ?_ | refine ev_gf rfl (by assumption) (by rfl) (by rfl) ?_)
  obtain ⟨w, hw, pre2⟩ := loop m (Nat.le_refl _)
  have hiff := Nwt_iff (th := gT G) hw
  by_cases c : 1 ≤ w ∧ gT G w = 1
  · obtain ⟨w, rfl⟩ : ∃ w', w = w' + 1 := ⟨w - 1, by omega⟩
    have hwP := hw.1
    have hkw : gK G (w + 1) = ky b tp := by
      rcases hw.2.2 with q | q
      · omega
      · exact q
    have hsz := Mh_sz hh (show w < P by omega)
    obtain ⟨-, -, -, h4, -⟩ := hh w (by omega)
    refine Or.inl ⟨w + 1, ⟨by omega, hwP, c.2, fun t' a b e => hw.2.1 t' a b (e.trans hkw)⟩, hkw, pre _ _ (pre2 _ _ ?_)⟩
    have s73 := a4.2.2.1
    have s74 := a4.2.2.2
    have s73' := s73' w
    have o5 : (j_set mem 69 (moC 0 0 P sd (nI w))).2.2 69 = some (.inr (11, [.int 0, .int (nI 0), .int (nI P), .int sd, .int (nI w), .ref 70, .ref 71, .ref 72, .ref 73, .ref 74, .ref 75, .ref 76])) := rfl
    have e5 := e5 w
    rw [nI_pred, show w + 1 - 1 = w by omega]
    repeat (first | refine ev_go rfl (by rfl) ?_ | refine ev_gf rfl (by assumption) (by rfl) (by rfl) ?_)
    refine ev_ifF rfl (by exact b_nlt (a := w) (b := 0) (by omega) (by omega) (by omega)) ?_
    repeat (first | refine ev_go rfl (by rfl) ?_ | refine ev_gf rfl (by assumption) (by rfl) (by rfl) ?_)
    refine ev_aliN (i := w) rfl (by assumption) (by omega) (by omega) ?_
    refine ev_ifT rfl (decide_eq_true (hsz.1.mpr c.2)) ?_
    repeat (first | refine ev_go rfl (by rfl) ?_ | refine ev_gf rfl (by assumption) (by rfl) (by rfl) ?_)
    refine ev_pf rfl (by assumption) (by rfl) (by rfl) (by rfl) ?_
    refine ev_m (mem' := j_set mem 69 (moC 0 0 P sd (nI w))) e5 ?_
    generalize j_set mem 69 (moC 0 0 P sd (nI w)) = m5 at *
    repeat (first | refine ev_go rfl (by rfl) ?_ | refine ev_gf rfl (by assumption) (by rfl) (by rfl) ?_)
    refine ev_aliN (i := w) rfl (by assumption) (by omega) (by omega) ?_
    rw [(h4 c.2).1]
    exact j_ev.ret rfl
  · refine Or.inr ⟨fun q => c (hiff.mp q), pre _ _ (pre2 _ _ ?_)⟩
    have fin : j_ev (d + 2) (j_ex tb (d + 1)) (j_tab q_Mo_find) [] (.inl (some (.int 0))) (m4) 122 [some (.ref 69), some (.int x), some (.int (nI tp)), some (.int (nI m)), some (.int (nI w - 1))] [] m3 := by
      repeat (first | refine ev_go rfl (by rfl) ?_ | refine ev_gf rfl (by assumption) (by rfl) (by rfl) ?_)
      refine ev_cv (as := [.int 3]) rfl rfl rfl (by assumption) (by rfl) (by rfl) (kf) ?_
      exact j_ev.ret rfl
    rcases Nat.eq_zero_or_pos w with e | e
    · subst e
      repeat (first | exact fin | refine ev_go rfl (by rfl) ?_ | refine ev_gf rfl (by assumption) (by rfl) (by rfl) ?_)
    · obtain ⟨w, rfl⟩ : ∃ w', w = w' + 1 := ⟨w - 1, by omega⟩
      have hwP := hw.1
      have hsz := Mh_sz hh (show w < P by omega)
      have s74 := a4.2.2.2
      rw [nI_pred] at fin ⊢
      repeat (first | refine ev_go rfl (by rfl) ?_ | refine ev_gf rfl (by assumption) (by rfl) (by rfl) ?_)
      refine ev_ifF rfl (by exact b_nlt (a := w) (b := 0) (by omega) (by omega) (by omega)) ?_
      repeat (first | refine ev_go rfl (by rfl) ?_ | refine ev_gf rfl (by assumption) (by rfl) (by rfl) ?_)
      refine ev_aliN (i := w) rfl (by assumption) (by omega) (by omega) ?_
      refine ev_ifF rfl (decide_eq_false (fun q => c ⟨by omega, hsz.1.mp q⟩)) ?_
      exact fin
theorem m_stands (d : Nat) {v : Nat} {md : Nat} (hP : P ≤ 500) (h : Mo mem fa tp md sd at') (ha : Mar mem K Ln Pl Sz) (hh : Mh K Ln Pl Sz G P) (hv : v < m) (hm : m ≤ P) :
    ∃ r : Bool, (r = true ↔ hst (gK G) (gT G) m (v + 1)) ∧ j_ex tb (d + 2) m_Mo_stands [.ref 69, .int (nI v), .int (nI m)] mem (.inl (some (.int (bI r)))) mem := by
  have o1 := h
  unfold Mo moC at o1
  have s74 := ha.2.2.2
  have hsz := Mh_sz hh (show v < P by omega)
  rcases gT_01 G (v + 1) with c | c
  · refine ⟨false, ⟨(fun q => by cases q), (fun q => by have := q.2.2.1; omega)⟩, ?_⟩
    refine ⟨e_Mo_stands, rfl, Nat.le_of_ble_eq_true rfl, ?_⟩
    repeat (first | refine ev_go rfl (by rfl) ?_ | refine ev_gf rfl (by assumption) (by rfl) (by rfl) ?_)
    refine ev_icF rfl (by exact b_nle (a := m) (b := v) (by omega) (by omega) (by omega)) ?_
    repeat (first | refine ev_go rfl (by rfl) ?_ | refine ev_gf rfl (by assumption) (by rfl) (by rfl) ?_)
    refine ev_aliN (i := v) rfl (by assumption) (by omega) (by omega) ?_
    refine ev_ifF rfl (decide_eq_false (fun q => by have := hsz.1.mp q; omega)) ?_
    repeat (first | refine ev_go rfl (by rfl) ?_ | refine ev_gf rfl (by assumption) (by rfl) (by rfl) ?_)
    exact j_ev.ret rfl
  · have loop : ∀ (g w : Nat), w + g = m → v < w → (∀ t, v + 1 < t → t ≤ w → gK G t ≠ gK G (v + 1)) → ∃ r : Bool, (r = true ↔ hst (gK G) (gT G) m (v + 1)) ∧ j_ev (d + 2) (j_ex tb (d + 1)) (j_tab q_Mo_stands) [] (.inl (some (.int (bI r)))) (mem) 20 [some (.ref 69), some (.int (nI v)), some (.int (nI m)), some (.int (nI w))] [] mem := by
      intro g
      induction g with
      | zero =>
        intro w hw hvw hall
        have hw : w = m := by omega
        subst hw
        refine ⟨true, ⟨fun _ => ⟨by omega, by omega, c, fun t' a b => hall t' a b⟩, fun _ => rfl⟩, ?_⟩
        repeat (first | refine ev_go rfl (by rfl) ?_ | refine ev_gf rfl (by assumption) (by rfl) (by rfl) ?_)
        refine ev_icT rfl (by exact b_le (a := w) (b := w) (by omega) (by omega) (by omega)) ?_
        repeat (first | refine ev_go rfl (by rfl) ?_ | refine ev_gf rfl (by assumption) (by rfl) (by rfl) ?_)
        exact j_ev.ret rfl
      | succ g ih =>
        intro w hw hvw hall
        obtain ⟨r, k1, k2, k3⟩ := m_cmp d (v := v) (w := w) hP h ha hh (by omega) (by omega)
        by_cases ck : gK G (v + 1) = gK G (w + 1)
        · refine ⟨false, ⟨(fun q => by cases q), fun q => absurd ck.symm (q.2.2.2 (w + 1) (by omega) (by omega))⟩, ?_⟩
          rw [k3.mpr ck] at k1
          repeat (first | refine ev_go rfl (by rfl) ?_ | refine ev_gf rfl (by assumption) (by rfl) (by rfl) ?_)
          refine ev_icF rfl (by exact b_nle (a := m) (b := w) (by omega) (by omega) (by omega)) ?_
          repeat (first | refine ev_go rfl (by rfl) ?_ | refine ev_gf rfl (by assumption) (by rfl) (by rfl) ?_)
          refine ev_cv (as := [.int (nI v), .int (nI w)]) rfl rfl rfl (by assumption) (by rfl) (by rfl) (k1) ?_
          repeat (first | refine ev_go rfl (by rfl) ?_ | refine ev_gf rfl (by assumption) (by rfl) (by rfl) ?_)
          exact j_ev.ret rfl
        · obtain ⟨r', z1, z2⟩ := ih (w + 1) (by omega) (by omega) (fun t a b => by
            by_cases e : t = w + 1
            · rw [e]; exact fun q => ck q.symm
            · exact hall t a (by omega))
          refine ⟨r', z1, ?_⟩
          rw [← nI_1 w] at z2
          repeat (first | refine ev_go rfl (by rfl) ?_ | refine ev_gf rfl (by assumption) (by rfl) (by rfl) ?_)
          refine ev_icF rfl (by exact b_nle (a := m) (b := w) (by omega) (by omega) (by omega)) ?_
          repeat (first | refine ev_go rfl (by rfl) ?_ | refine ev_gf rfl (by assumption) (by rfl) (by rfl) ?_)
          refine ev_cv (as := [.int (nI v), .int (nI w)]) rfl rfl rfl (by assumption) (by rfl) (by rfl) (k1) ?_
          refine ev_ifT rfl (by exact decide_eq_true (fun q => ck (k3.mp q))) ?_
          repeat (first | exact z2 | refine ev_go rfl (by rfl) ?_ | refine ev_gf rfl (by assumption) (by rfl) (by rfl) ?_)
    obtain ⟨r, z1, z2⟩ := loop (m - (v + 1)) (v + 1) (by omega) (by omega) (fun t a b => by omega)
    refine ⟨r, z1, ?_⟩
    rw [← nI_1 v] at z2
    refine ⟨e_Mo_stands, rfl, Nat.le_of_ble_eq_true rfl, ?_⟩
    repeat (first | refine ev_go rfl (by rfl) ?_ | refine ev_gf rfl (by assumption) (by rfl) (by rfl) ?_)
    refine ev_icF rfl (by exact b_nle (a := m) (b := v) (by omega) (by omega) (by omega)) ?_
    repeat (first | refine ev_go rfl (by rfl) ?_ | refine ev_gf rfl (by assumption) (by rfl) (by rfl) ?_)
    refine ev_aliN (i := v) rfl (by assumption) (by omega) (by omega) ?_
    refine ev_ifT rfl (decide_eq_true (hsz.1.mpr c)) ?_
    repeat (first | exact z2 | refine ev_go rfl (by rfl) ?_ | refine ev_gf rfl (by assumption) (by rfl) (by rfl) ?_)
end MFIND
