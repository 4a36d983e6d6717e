/-! THE REFERENCE: put, out, flush, merge, check, current, stands, find (own text) -/
section MCALLS
variable {mem : j_M} {K Ln Pl Sz : Nat → Int32} {G : Nat → Nat → Int64} {P : Nat} {fa sd at' : Int32} {tp n m : Nat} {b : Nat → Int32} {s : Nat → Option Nat}
theorem m_put (d : Nat) {pl sz : Nat} (hP : P < 500) (h : Mo mem fa tp P sd at') (h70 : mem.2.2 70 = some (.inl (2, 60, .inl b))) (ha : Mar mem K Ln Pl Sz) (hh : Mh K Ln Pl Sz G P) (hn : 1 ≤ tp ∧ tp ≤ 40) (hB : Byt b) (hpl : pl < 2 ^ 31) (hsz : sz ≤ 1000) :
    ∃ mem' bef, j_ex tb (d + 3) m_Mo_put [.ref 69, .int (nI pl), .int (nI sz)] mem (.inl (some (.int (nI (P + 1))))) mem' ∧ Mo mem' 0 0 (P + 1) (sd + (nI 1 - nI bef)) at' ∧ Mar mem' (cpK K b (40 * P) tp) (upd Ln P (nI tp)) (upd Pl P (nI pl)) (upd Sz P (nI sz)) ∧ ((bef = 1 ∧ ∃ t, hst (gK G) (gT G) P t ∧ gK G t = ky b tp) ∨ (bef = 0 ∧ ¬ ∃ t, hst (gK G) (gT G) P t ∧ gK G t = ky b tp)) ∧ mem'.1 = mem.1 ∧ mem'.2.1 = mem.2.1 ∧ ∀ c, c ≠ 69 → c ≠ 71 → c ≠ 72 → c ≠ 73 → c ≠ 74 → mem'.2.2 c = mem.2.2 c := by
  have mo1 : Mo (j_set mem 69 (moC 0 tp P sd at')) 0 tp P sd at' := rfl
  obtain ⟨mem', bef, k1, k2, k3, k4, k5, k6, k7⟩ := m_enter d (x := nI pl) (y := nI sz) (th := 1) (G := G) hP mo1 (show (j_set mem 69 (moC 0 tp P sd at')).2.2 70 = _ from h70) (Mar_69 ha _) hh hn.2 hB (Or.inr ⟨rfl, nI_pos' (by omega)⟩)
  refine ⟨mem', bef, ?_, k2, k3, k4, k5, k6, fun c c1 c2 c3 c4 c5 => (k7 c c1 c2 c3 c4 c5).trans (st_ne _ _ c1)⟩
  have kk := x_Mo_keyed (d + 1) mo1 (by omega)
  rw [if_pos hn] at kk
  have o1 := h
  unfold Mo moC at o1
  have o2 : (j_set mem 69 (moC 0 tp P sd at')).2.2 69 = some (.inr (11, [.int 0, .int (nI tp), .int (nI P), .int sd, .int at', .ref 70, .ref 71, .ref 72, .ref 73, .ref 74, .ref 75, .ref 76])) := rfl
  refine ⟨e_Mo_put, rfl, Nat.le_of_ble_eq_true rfl, ?_⟩
  repeat (first | refine ev_go rfl (by rfl) ?_ | refine ev_gf rfl (by assumption) (by rfl) (by rfl) ?_)
  refine ev_pf rfl (by assumption) (by rfl) (by rfl) (by rfl) ?_
  refine ev_m (mem' := j_set mem 69 (moC 0 tp P sd at')) rfl ?_
  generalize j_set mem 69 (moC 0 tp P sd at') = m1 at *
  repeat (first | refine ev_go rfl (by rfl) ?_ | refine ev_gf rfl (by assumption) (by rfl) (by rfl) ?_)
  refine ev_cv (as := []) rfl rfl rfl (by assumption) (by rfl) (by rfl) (kk) ?_
  repeat (first | refine ev_go rfl (by rfl) ?_ | refine ev_gf rfl (by assumption) (by rfl) (by rfl) ?_)
  refine ev_ifF rfl (by exact b_nlt (a := pl) (b := 0) (by omega) (by omega) (by omega)) ?_
  repeat (first | refine ev_go rfl (by rfl) ?_ | refine ev_gf rfl (by assumption) (by rfl) (by rfl) ?_)
  refine ev_ifF rfl (by exact b_nlt (a := sz) (b := 0) (by omega) (by omega) (by omega)) ?_
  repeat (first | refine ev_go rfl (by rfl) ?_ | refine ev_gf rfl (by assumption) (by rfl) (by rfl) ?_)
  refine ev_icT rfl (by exact b_le (a := sz) (b := 1000) (by omega) (by omega) (by omega)) ?_
  repeat (first | refine ev_go rfl (by rfl) ?_ | refine ev_gf rfl (by assumption) (by rfl) (by rfl) ?_)
  refine ev_cv (as := [.int (nI pl), .int (nI sz)]) rfl rfl rfl (by assumption) (by rfl) (by rfl) (k1) ?_
  exact j_ev.ret rfl
theorem m_putT (d : Nat) {x y : Int32} {md : Nat} (h : Mo mem fa tp md sd at') (ht : tp ≤ 60) (hn : ¬ (1 ≤ tp ∧ tp ≤ 40) ∨ x < 0 ∨ y < 0 ∨ 1000 < y) : j_ex tb (d + 2) m_Mo_put [.ref 69, .int x, .int y] mem (.inl (some (.int 0))) (j_set mem 69 (moC 1 tp md sd at')) := by
  have mo1 : Mo (j_set mem 69 (moC 0 tp md sd at')) 0 tp md sd at' := rfl
  have kk := x_Mo_keyed d mo1 ht
  have kf := x_Mo_fail d 1 mo1
  rw [st_st] at kf
  have o1 := h
  unfold Mo moC at o1
  have o2 : (j_set mem 69 (moC 0 tp md sd at')).2.2 69 = some (.inr (11, [.int 0, .int (nI tp), .int (nI md), .int sd, .int at', .ref 70, .ref 71, .ref 72, .ref 73, .ref 74, .ref 75, .ref 76])) := rfl
  refine ⟨e_Mo_put, rfl, Nat.le_of_ble_eq_true rfl, ?_⟩
  repeat (first | refine ev_go rfl (by rfl) ?_ | refine ev_gf rfl (by assumption) (by rfl) (by rfl) ?_)
  refine ev_pf rfl (by assumption) (by rfl) (by rfl) (by rfl) ?_
  refine ev_m (mem' := j_set mem 69 (moC 0 tp md sd at')) rfl ?_
  generalize j_set mem 69 (moC 0 tp md sd at') = m1 at *
  generalize j_set mem 69 (moC 1 tp md sd at') = m2 at *
  have fin : j_ev (d + 2) (j_ex tb (d + 1)) (j_tab q_Mo_put) [] (.inl (some (.int 0))) (m2) 27 [some (.ref 69), some (.int x), some (.int y)] [] m1 := by
    repeat (first | refine ev_go rfl (by rfl) ?_ | refine ev_gf rfl (by assumption) (by rfl) (by rfl) ?_)
    refine ev_cv (as := [.int 1]) rfl rfl rfl (by assumption) (by rfl) (by rfl) (kf) ?_
    exact j_ev.ret rfl
  by_cases c0 : 1 ≤ tp ∧ tp ≤ 40
  · rw [if_pos c0] at kk
    repeat (first | refine ev_go rfl (by rfl) ?_ | refine ev_gf rfl (by assumption) (by rfl) (by rfl) ?_)
    refine ev_cv (as := []) rfl rfl rfl (by assumption) (by rfl) (by rfl) (kk) ?_
    repeat (first | refine ev_go rfl (by rfl) ?_ | refine ev_gf rfl (by assumption) (by rfl) (by rfl) ?_)
    by_cases c1 : x < 0
    · refine ev_ifT rfl (decide_eq_true c1) ?_
      exact fin
    · refine ev_ifF rfl (decide_eq_false c1) ?_
      repeat (first | refine ev_go rfl (by rfl) ?_ | refine ev_gf rfl (by assumption) (by rfl) (by rfl) ?_)
      by_cases c2 : y < 0
      · refine ev_ifT rfl (decide_eq_true c2) ?_
        exact fin
      · refine ev_ifF rfl (decide_eq_false c2) ?_
        repeat (first | refine ev_go rfl (by rfl) ?_ | refine ev_gf rfl (by assumption) (by rfl) (by rfl) ?_)
        have c3 : 1000 < y := by
          rcases hn with q | q | q | q
          · exact absurd c0 q
          · exact absurd q c1
          · exact absurd q c2
          · exact q
        refine ev_icF rfl (decide_eq_false (fun q => by
          have h1 := Int32.lt_iff_toInt_lt.mp c3
          have h2 := Int32.le_iff_toInt_le.mp q
          omega)) ?_
        exact fin
  · rw [if_neg c0] at kk
    repeat (first | refine ev_go rfl (by rfl) ?_ | refine ev_gf rfl (by assumption) (by rfl) (by rfl) ?_)
    refine ev_cv (as := []) rfl rfl rfl (by assumption) (by rfl) (by rfl) (kk) ?_
    repeat (first | exact fin | refine ev_go rfl (by rfl) ?_ | refine ev_gf rfl (by assumption) (by rfl) (by rfl) ?_)
theorem m_out (d : Nat) (hP : P < 500) (h : Mo mem fa tp P sd at') (h70 : mem.2.2 70 = some (.inl (2, 60, .inl b))) (ha : Mar mem K Ln Pl Sz) (hh : Mh K Ln Pl Sz G P) (hn : 1 ≤ tp ∧ tp ≤ 40) (hB : Byt b) :
    ∃ mem' bef, j_ex tb (d + 3) m_Mo_out [.ref 69] mem (.inl (some (.int (nI (P + 1))))) mem' ∧ Mo mem' 0 0 (P + 1) (sd + (nI 0 - nI bef)) at' ∧ Mar mem' (cpK K b (40 * P) tp) (upd Ln P (nI tp)) (upd Pl P 0) (upd Sz P (-1)) ∧ ((bef = 1 ∧ ∃ t, hst (gK G) (gT G) P t ∧ gK G t = ky b tp) ∨ (bef = 0 ∧ ¬ ∃ t, hst (gK G) (gT G) P t ∧ gK G t = ky b tp)) ∧ mem'.1 = mem.1 ∧ mem'.2.1 = mem.2.1 ∧ ∀ c, c ≠ 69 → c ≠ 71 → c ≠ 72 → c ≠ 73 → c ≠ 74 → mem'.2.2 c = mem.2.2 c := by
  have mo1 : Mo (j_set mem 69 (moC 0 tp P sd at')) 0 tp P sd at' := rfl
  obtain ⟨mem', bef, k1, k2, k3, k4, k5, k6, k7⟩ := m_enter d (x := 0) (y := -1) (th := 0) (G := G) hP mo1 (show (j_set mem 69 (moC 0 tp P sd at')).2.2 70 = _ from h70) (Mar_69 ha _) hh hn.2 hB (Or.inl ⟨rfl, by decide⟩)
  refine ⟨mem', bef, ?_, k2, k3, k4, k5, k6, fun c c1 c2 c3 c4 c5 => (k7 c c1 c2 c3 c4 c5).trans (st_ne _ _ c1)⟩
  have kk := x_Mo_keyed (d + 1) mo1 (by omega)
  rw [if_pos hn] at kk
  have o1 := h
  unfold Mo moC at o1
  have o2 : (j_set mem 69 (moC 0 tp P sd at')).2.2 69 = some (.inr (11, [.int 0, .int (nI tp), .int (nI P), .int sd, .int at', .ref 70, .ref 71, .ref 72, .ref 73, .ref 74, .ref 75, .ref 76])) := rfl
  refine ⟨e_Mo_out, rfl, Nat.le_of_ble_eq_true rfl, ?_⟩
  repeat (first | refine ev_go rfl (by rfl) ?_ | refine ev_gf rfl (by assumption) (by rfl) (by rfl) ?_)
  refine ev_pf rfl (by assumption) (by rfl) (by rfl) (by rfl) ?_
  refine ev_m (mem' := j_set mem 69 (moC 0 tp P sd at')) rfl ?_
  generalize j_set mem 69 (moC 0 tp P sd at') = m1 at *
  repeat (first | refine ev_go rfl (by rfl) ?_ | refine ev_gf rfl (by assumption) (by rfl) (by rfl) ?_)
  refine ev_cv (as := []) rfl rfl rfl (by assumption) (by rfl) (by rfl) (kk) ?_
  repeat (first | refine ev_go rfl (by rfl) ?_ | refine ev_gf rfl (by assumption) (by rfl) (by rfl) ?_)
  refine ev_cv (as := [.int 0, .int (-1)]) rfl rfl rfl (by assumption) (by rfl) (by rfl) (k1) ?_
  exact j_ev.ret rfl
theorem m_outT (d : Nat) {md : Nat} (h : Mo mem fa tp md sd at') (ht : tp ≤ 60) (hn : ¬ (1 ≤ tp ∧ tp ≤ 40)) : j_ex tb (d + 2) m_Mo_out [.ref 69] mem (.inl (some (.int 0))) (j_set mem 69 (moC 1 tp md sd at')) := by
  have mo1 : Mo (j_set mem 69 (moC 0 tp md sd at')) 0 tp md sd at' := rfl
  have kk := x_Mo_keyed d mo1 ht
  rw [if_neg hn] at kk
  have kf := x_Mo_fail d 1 mo1
  rw [st_st] at kf
  have o1 := h
  unfold Mo moC at o1
  have o2 : (j_set mem 69 (moC 0 tp md sd at')).2.2 69 = some (.inr (11, [.int 0, .int (nI tp), .int (nI md), .int sd, .int at', .ref 70, .ref 71, .ref 72, .ref 73, .ref 74, .ref 75, .ref 76])) := rfl
  refine ⟨e_Mo_out, rfl, Nat.le_of_ble_eq_true rfl, ?_⟩
  repeat (first | refine ev_go rfl (by rfl) ?_ | refine ev_gf rfl (by assumption) (by rfl) (by rfl) ?_)
  refine ev_pf rfl (by assumption) (by rfl) (by rfl) (by rfl) ?_
  refine ev_m (mem' := j_set mem 69 (moC 0 tp md sd at')) rfl ?_
  generalize j_set mem 69 (moC 0 tp md sd at') = m1 at *
  generalize j_set mem 69 (moC 1 tp md sd at') = m2 at *
  repeat (first | refine ev_go rfl (by rfl) ?_ | refine ev_gf rfl (by assumption) (by rfl) (by rfl) ?_)
  refine ev_cv (as := []) rfl rfl rfl (by assumption) (by rfl) (by rfl) (kk) ?_
  repeat (first | refine ev_go rfl (by rfl) ?_ | refine ev_gf rfl (by assumption) (by rfl) (by rfl) ?_)
  refine ev_cv (as := [.int 1]) rfl rfl rfl (by assumption) (by rfl) (by rfl) (kf) ?_
  exact j_ev.ret rfl
theorem m_present (d : Nat) {md : Nat} (h : Mo mem fa tp md sd at') : j_ex tb (d + 1) m_Mo_present [.ref 69] mem (.inl (some (.int sd))) (j_set mem 69 (moC 0 tp md sd at')) := by
  have o1 := h
  unfold Mo moC at o1
  have o2 : (j_set mem 69 (moC 0 tp md sd at')).2.2 69 = some (.inr (11, [.int 0, .int (nI tp), .int (nI md), .int sd, .int at', .ref 70, .ref 71, .ref 72, .ref 73, .ref 74, .ref 75, .ref 76])) := rfl
  refine ⟨e_Mo_present, rfl, Nat.le_of_ble_eq_true rfl, ?_⟩
  repeat (first | refine ev_go rfl (by rfl) ?_ | refine ev_gf rfl (by assumption) (by rfl) (by rfl) ?_)
  refine ev_pf rfl (by assumption) (by rfl) (by rfl) (by rfl) ?_
  refine ev_m (mem' := j_set mem 69 (moC 0 tp md sd at')) rfl ?_
  generalize j_set mem 69 (moC 0 tp md sd at') = m1 at *
  repeat (first | refine ev_go rfl (by rfl) ?_ | refine ev_gf rfl (by assumption) (by rfl) (by rfl) ?_)
  exact j_ev.ret rfl
theorem m_flush (d : Nat) {md : Nat} (h : Mo mem fa tp md sd at') : j_ex tb (d + 2) m_Mo_flush [.ref 69] mem (.inl (some (.int sd))) (j_set mem 69 (moC 0 tp md sd at')) := by
  have k := m_present d h
  have o1 := h
  unfold Mo moC at o1
  refine ⟨e_Mo_flush, rfl, Nat.le_of_ble_eq_true rfl, ?_⟩
  repeat (first | refine ev_go rfl (by rfl) ?_ | refine ev_gf rfl (by assumption) (by rfl) (by rfl) ?_)
  refine ev_cv (as := []) rfl rfl rfl (by assumption) (by rfl) (by rfl) (k) ?_
  exact j_ev.ret rfl
theorem m_merge (d : Nat) {md : Nat} {z : Int32} (h : Mo mem fa tp md sd at') : j_ex tb (d + 2) m_Mo_merge [.ref 69, .int z] mem (.inl (some (.int sd))) (j_set mem 69 (moC 0 tp md sd at')) := by
  have k := m_present d h
  have o1 := h
  unfold Mo moC at o1
  refine ⟨e_Mo_merge, rfl, Nat.le_of_ble_eq_true rfl, ?_⟩
  repeat (first | refine ev_go rfl (by rfl) ?_ | refine ev_gf rfl (by assumption) (by rfl) (by rfl) ?_)
  refine ev_cv (as := []) rfl rfl rfl (by assumption) (by rfl) (by rfl) (k) ?_
  exact j_ev.ret rfl
theorem m_check (d : Nat) {md : Nat} (h : Mo mem fa tp md sd at') : j_ex tb (d + 2) m_Mo_check [.ref 69] mem (.inl (some (.int sd))) (j_set mem 69 (moC 0 tp md sd at')) := by
  have k := m_present d h
  have o1 := h
  unfold Mo moC at o1
  refine ⟨e_Mo_check, rfl, Nat.le_of_ble_eq_true rfl, ?_⟩
  repeat (first | refine ev_go rfl (by rfl) ?_ | refine ev_gf rfl (by assumption) (by rfl) (by rfl) ?_)
  refine ev_cv (as := []) rfl rfl rfl (by assumption) (by rfl) (by rfl) (k) ?_
  exact j_ev.ret rfl
/-- current: refused, nothing shown, the shown one -/
theorem m_currentR (d : Nat) {md : Nat} {x : Int32} (h : Mo mem fa tp md sd at') (hx : x < 0 ∨ nI 4 ≤ x) : j_ex tb (d + 2) m_Mo_current [.ref 69, .int x] mem (.inl (some (.int 0))) (j_set mem 69 (moC 1 tp md sd at')) := by
  have mo1 : Mo (j_set mem 69 (moC 0 tp md sd at')) 0 tp md sd at' := rfl
  have kf := x_Mo_fail d 1 mo1
  rw [st_st] at kf
  have o1 := h
  unfold Mo moC at o1
  have o2 : (j_set mem 69 (moC 0 tp md sd at')).2.2 69 = some (.inr (11, [.int 0, .int (nI tp), .int (nI md), .int sd, .int at', .ref 70, .ref 71, .ref 72, .ref 73, .ref 74, .ref 75, .ref 76])) := rfl
  refine ⟨e_Mo_current, rfl, Nat.le_of_ble_eq_true rfl, ?_⟩
  repeat (first | refine ev_go rfl (by rfl) ?_ | refine ev_gf rfl (by assumption) (by rfl) (by rfl) ?_)
  refine ev_pf rfl (by assumption) (by rfl) (by rfl) (by rfl) ?_
  refine ev_m (mem' := j_set mem 69 (moC 0 tp md sd at')) rfl ?_
  generalize j_set mem 69 (moC 0 tp md sd at') = m1 at *
  generalize j_set mem 69 (moC 1 tp md sd at') = m2 at *
  have fin : j_ev (d + 2) (j_ex tb (d + 1)) (j_tab q_Mo_current) [] (.inl (some (.int 0))) (m2) 14 [some (.ref 69), some (.int x)] [] m1 := by
    repeat (first | refine ev_go rfl (by rfl) ?_ | refine ev_gf rfl (by assumption) (by rfl) (by rfl) ?_)
    refine ev_cv (as := [.int 1]) rfl rfl rfl (by assumption) (by rfl) (by rfl) (kf) ?_
    exact j_ev.ret rfl
  by_cases c : x < 0
  · repeat (first | refine ev_go rfl (by rfl) ?_ | refine ev_gf rfl (by assumption) (by rfl) (by rfl) ?_)
    refine ev_ifT rfl (decide_eq_true c) ?_
    exact fin
  · have hx : nI 4 ≤ x := hx.resolve_left c
    repeat (first | refine ev_go rfl (by rfl) ?_ | refine ev_gf rfl (by assumption) (by rfl) (by rfl) ?_)
    refine ev_ifF rfl (decide_eq_false c) ?_
    repeat (first | refine ev_go rfl (by rfl) ?_ | refine ev_gf rfl (by assumption) (by rfl) (by rfl) ?_)
    refine ev_icF rfl (decide_eq_false (fun q => by
      have h1 := Int32.le_iff_toInt_le.mp hx
      have h2 := Int32.le_iff_toInt_le.mp q
      have e1 : (nI 4).toInt = 4 := by decide
      have e2 : (3 : Int32).toInt = 3 := by decide
      omega)) ?_
    exact fin
theorem m_currentN (d : Nat) {md w : Nat} (h : Mo mem fa tp md sd (-1)) (hw : w ≤ 3) : j_ex tb (d + 2) m_Mo_current [.ref 69, .int (nI w)] mem (.inl (some (.int 0))) (j_set mem 69 (moC 2 tp md sd (-1))) := by
  have mo1 : Mo (j_set mem 69 (moC 0 tp md sd (-1))) 0 tp md sd (-1) := rfl
  have kf := x_Mo_fail d 2 mo1
  rw [st_st] at kf
  have o1 := h
  unfold Mo moC at o1
  have o2 : (j_set mem 69 (moC 0 tp md sd (-1))).2.2 69 = some (.inr (11, [.int 0, .int (nI tp), .int (nI md), .int sd, .int (-1), .ref 70, .ref 71, .ref 72, .ref 73, .ref 74, .ref 75, .ref 76])) := rfl
  refine ⟨e_Mo_current, rfl, Nat.le_of_ble_eq_true rfl, ?_⟩
  repeat (first | refine ev_go rfl (by rfl) ?_ | refine ev_gf rfl (by assumption) (by rfl) (by rfl) ?_)
  refine ev_pf rfl (by assumption) (by rfl) (by rfl) (by rfl) ?_
  refine ev_m (mem' := j_set mem 69 (moC 0 tp md sd (-1))) rfl ?_
  generalize j_set mem 69 (moC 0 tp md sd (-1)) = m1 at *
  generalize j_set mem 69 (moC 2 tp md sd (-1)) = m2 at *
  repeat (first | refine ev_go rfl (by rfl) ?_ | refine ev_gf rfl (by assumption) (by rfl) (by rfl) ?_)
  refine ev_ifF rfl (by exact b_nlt (a := w) (b := 0) (by omega) (by omega) (by omega)) ?_
  repeat (first | refine ev_go rfl (by rfl) ?_ | refine ev_gf rfl (by assumption) (by rfl) (by rfl) ?_)
  refine ev_icT rfl (by exact b_le (a := w) (b := 3) (by omega) (by omega) (by omega)) ?_
  repeat (first | refine ev_go rfl (by rfl) ?_ | refine ev_gf rfl (by assumption) (by rfl) (by rfl) ?_)
  refine ev_cv (as := [.int 2]) rfl rfl rfl (by assumption) (by rfl) (by rfl) (kf) ?_
  exact j_ev.ret rfl
theorem m_current (d : Nat) {w y : Nat} (hP : P ≤ 500) (h : Mo mem fa tp P sd (nI y)) (hy : y < P) (ha : Mar mem K Ln Pl Sz) (hh : Mh K Ln Pl Sz G P) (ht : gT G (y + 1) = 1) (hm : v_mom (G (y + 1)) = y + 1) (hw : w ≤ 3) :
    j_ex tb (d + 2) m_Mo_current [.ref 69, .int (nI w)] mem (.inl (some (.int (nI (if w = 0 then v_pl (G (y + 1)) else if w = 1 then v_sz (G (y + 1)) else if w = 2 then v_mom (G (y + 1)) else v_len (G (y + 1))))))) (j_set mem 69 (moC 0 tp P sd (nI y))) := by
  obtain ⟨h1, h2, h3, h4, -⟩ := hh y hy
  obtain ⟨h5, h6⟩ := h4 ht
  have o1 := h
  unfold Mo moC at o1
  have o2 : (j_set mem 69 (moC 0 tp P sd (nI y))).2.2 69 = some (.inr (11, [.int 0, .int (nI tp), .int (nI P), .int sd, .int (nI y), .ref 70, .ref 71, .ref 72, .ref 73, .ref 74, .ref 75, .ref 76])) := rfl
  have a1 : Mar (j_set mem 69 (moC 0 tp P sd (nI y))) K Ln Pl Sz := Mar_69 ha _
  have a72 := a1.2.1
  have a73 := a1.2.2.1
  have a74 := a1.2.2.2
  rw [hm]
  refine ⟨e_Mo_current, rfl, Nat.le_of_ble_eq_true rfl, ?_⟩
  repeat (first | refine ev_go rfl (by rfl) ?_ | refine ev_gf rfl (by assumption) (by rfl) (by rfl) ?_)
  refine ev_pf rfl (by assumption) (by rfl) (by rfl) (by rfl) ?_
  refine ev_m (mem' := j_set mem 69 (moC 0 tp P sd (nI y))) rfl ?_
  generalize j_set mem 69 (moC 0 tp P sd (nI y)) = m1 at *
  have hw4 : w = 0 ∨ w = 1 ∨ w = 2 ∨ w = 3 := by omega
  repeat (first | refine ev_go rfl (by rfl) ?_ | refine ev_gf rfl (by assumption) (by rfl) (by rfl) ?_)
  refine ev_ifF rfl (by exact b_nlt (a := w) (b := 0) (by omega) (by omega) (by omega)) ?_
  repeat (first | refine ev_go rfl (by rfl) ?_ | refine ev_gf rfl (by assumption) (by rfl) (by rfl) ?_)
  refine ev_icT rfl (by exact b_le (a := w) (b := 3) (by omega) (by omega) (by omega)) ?_
  repeat (first | refine ev_go rfl (by rfl) ?_ | refine ev_gf rfl (by assumption) (by rfl) (by rfl) ?_)
  refine ev_ifT rfl (by exact b_le (a := 0) (b := y) (by omega) (by omega) (by omega)) ?_
  rcases hw4 with rfl | rfl | rfl | rfl
  · repeat (first | refine ev_go rfl (by rfl) ?_ | refine ev_gf rfl (by assumption) (by rfl) (by rfl) ?_)
    refine ev_aliN (i := y) rfl (by assumption) (by omega) (by omega) ?_
    rw [h5]
    repeat (first | refine ev_go rfl (by rfl) ?_ | refine ev_gf rfl (by assumption) (by rfl) (by rfl) ?_)
    exact j_ev.ret rfl
  · repeat (first | refine ev_go rfl (by rfl) ?_ | refine ev_gf rfl (by assumption) (by rfl) (by rfl) ?_)
    refine ev_aliN (i := y) rfl (by assumption) (by omega) (by omega) ?_
    rw [h6]
    repeat (first | refine ev_go rfl (by rfl) ?_ | refine ev_gf rfl (by assumption) (by rfl) (by rfl) ?_)
    exact j_ev.ret rfl
  · repeat (first | refine ev_go rfl (by rfl) ?_ | refine ev_gf rfl (by assumption) (by rfl) (by rfl) ?_)
    refine ev_vi (nI_1 y) ?_
    exact j_ev.ret rfl
  · repeat (first | refine ev_go rfl (by rfl) ?_ | refine ev_gf rfl (by assumption) (by rfl) (by rfl) ?_)
    refine ev_aliN (i := y) rfl (by assumption) (by omega) (by omega) ?_
    rw [h2]
    exact j_ev.ret rfl
end MCALLS
