/-! THE REFERENCE: seek (own text) -/
section MSEEK
variable {mem : j_M} {K Ln Pl Sz : Nat → Int32} {G : Nat → Nat → Int64} {P : Nat} {fa sd at' : Int32} {tp n m : Nat} {b : Nat → Int32} {s : Nat → Option Nat}
theorem m_seekR (d : Nat) {md : Nat} {x z : Int32} (h : Mo mem fa tp md sd at') (ht : tp ≤ 60) (hn : x < -1 ∨ 8 ≤ x ∨ 40 < tp) : j_ex tb (d + 2) m_Mo_seek [.ref 69, .int x, .int z] mem (.inl (some (.int 0))) (j_set mem 69 (moC 1 tp md sd at')) := by
  have mo1 : Mo (j_set mem 69 (moC 0 tp md sd at')) 0 tp md sd at' := rfl
  have kf := x_Mo_fail d 1 mo1
  rw [st_st] at kf
  have o1 := h
  unfold Mo moC at o1
  have o2 : (j_set mem 69 (moC 0 tp md sd at')).2.2 69 = some (.inr (11, [.int 0, .int (nI tp), .int (nI md), .int sd, .int at', .ref 70, .ref 71, .ref 72, .ref 73, .ref 74, .ref 75, .ref 76])) := rfl
  generalize hm1 : j_set mem 69 (moC 0 tp md sd at') = m1 at *
  generalize hm2 : j_set mem 69 (moC 1 tp md sd at') = m2 at *
  refine ⟨e_Mo_seek, rfl, Nat.le_of_ble_eq_true rfl, ?_⟩
  repeat (first | refine ev_go rfl (by rfl) ?_ | refine ev_gf rfl (by assumption) (by rfl) (by rfl) ?_)
  refine ev_pf rfl (by assumption) (by rfl) (by rfl) (by rfl) ?_
  refine ev_m (mem' := m1) hm1 ?_
  have fin : j_ev (d + 2) (j_ex tb (d + 1)) (j_tab q_Mo_seek) [] (.inl (some (.int 0))) (m2) 25 [some (.ref 69), some (.int x), some (.int z), none, none, none, none] [] m1 := by
    repeat (first | refine ev_go rfl (by rfl) ?_ | refine ev_gf rfl (by assumption) (by rfl) (by rfl) ?_)
    refine ev_cv (as := [.int 1]) rfl rfl rfl (by assumption) (by rfl) (by rfl) (kf) ?_
    exact j_ev.ret rfl
  by_cases c0 : 40 < tp
  · repeat (first | refine ev_go rfl (by rfl) ?_ | refine ev_gf rfl (by assumption) (by rfl) (by rfl) ?_)
    refine ev_icT rfl (by exact b_lt (a := 40) (b := tp) (by omega) (by omega) (by omega)) ?_
    exact fin
  · repeat (first | refine ev_go rfl (by rfl) ?_ | refine ev_gf rfl (by assumption) (by rfl) (by rfl) ?_)
    refine ev_icF rfl (by exact b_nlt (a := 40) (b := tp) (by omega) (by omega) (by omega)) ?_
    repeat (first | refine ev_go rfl (by rfl) ?_ | refine ev_gf rfl (by assumption) (by rfl) (by rfl) ?_)
    by_cases c1 : x < -1
    · refine ev_icT rfl (decide_eq_true c1) ?_
      exact fin
    · refine ev_icF rfl (decide_eq_false c1) ?_
      repeat (first | refine ev_go rfl (by rfl) ?_ | refine ev_gf rfl (by assumption) (by rfl) (by rfl) ?_)
      have c2 : (8 : Int32) ≤ x := by
        rcases hn with q | q | q
        · exact absurd q c1
        · exact q
        · omega
      refine ev_icF rfl (decide_eq_false (le7 c2)) ?_
      exact fin
theorem m_seekS (d : Nat) {md i : Nat} {z : Int32} (h : Mo mem fa tp md sd at') (hv : Mv mem s) (hn : tp ≤ 40) (hi : i < 8) (hs : s i = none) : j_ex tb (d + 2) m_Mo_seek [.ref 69, .int (nI i), .int z] mem (.inl (some (.int 0))) (j_set mem 69 (moC 2 0 md sd at')) := by
  have mo2 : Mo (j_set mem 69 (moC 0 0 md sd at')) 0 0 md sd at' := rfl
  have kf := x_Mo_fail d 2 mo2
  rw [st_st] at kf
  obtain ⟨⟨op, p1, p2⟩, -⟩ := hv
  have q1 := p2 i hi
  rw [hs] at q1
  have p3 : (j_set mem 69 (moC 0 0 md sd at')).2.2 75 = _ := p1
  have o1 := h
  unfold Mo moC at o1
  have o2 : (j_set mem 69 (moC 0 tp md sd at')).2.2 69 = some (.inr (11, [.int 0, .int (nI tp), .int (nI md), .int sd, .int at', .ref 70, .ref 71, .ref 72, .ref 73, .ref 74, .ref 75, .ref 76])) := rfl
  have o3 : (j_set mem 69 (moC 0 0 md sd at')).2.2 69 = some (.inr (11, [.int 0, .int (nI 0), .int (nI md), .int sd, .int at', .ref 70, .ref 71, .ref 72, .ref 73, .ref 74, .ref 75, .ref 76])) := rfl
  have e3 : j_set (j_set mem 69 (moC 0 tp md sd at')) 69 (moC 0 0 md sd at') = j_set mem 69 (moC 0 0 md sd at') := st_st _ _ _ _
  have hr := v_rng7 i hi
  generalize hm1 : j_set mem 69 (moC 0 tp md sd at') = m1 at *
  generalize hm2 : j_set mem 69 (moC 0 0 md sd at') = m2 at *
  generalize hm3 : j_set mem 69 (moC 2 0 md sd at') = m3 at *
  refine ⟨e_Mo_seek, rfl, Nat.le_of_ble_eq_true rfl, ?_⟩
  repeat (first | refine ev_go rfl (by rfl) ?_ | refine ev_gf rfl (by assumption) (by rfl) (by rfl) ?_)
  refine ev_pf rfl (by assumption) (by rfl) (by rfl) (by rfl) ?_
  refine ev_m (mem' := m1) hm1 ?_
  repeat (first | refine ev_go rfl (by rfl) ?_ | refine ev_gf rfl (by assumption) (by rfl) (by rfl) ?_)
  refine ev_icF rfl (by exact b_nlt (a := 40) (b := tp) (by omega) (by omega) (by omega)) ?_
  repeat (first | refine ev_go rfl (by rfl) ?_ | refine ev_gf rfl (by assumption) (by rfl) (by rfl) ?_)
  refine ev_icF rfl (decide_eq_false hr.1) ?_
  repeat (first | refine ev_go rfl (by rfl) ?_ | refine ev_gf rfl (by assumption) (by rfl) (by rfl) ?_)
  refine ev_icT rfl (decide_eq_true hr.2.1) ?_
  repeat (first | refine ev_go rfl (by rfl) ?_ | refine ev_gf rfl (by assumption) (by rfl) (by rfl) ?_)
  refine ev_pf rfl (by assumption) (by rfl) (by rfl) (by rfl) ?_
  refine ev_m (mem' := m2) e3 ?_
  repeat (first | refine ev_go rfl (by rfl) ?_ | refine ev_gf rfl (by assumption) (by rfl) (by rfl) ?_)
  refine ev_ifF rfl (decide_eq_false hr.2.2.1) ?_
  repeat (first | refine ev_go rfl (by rfl) ?_ | refine ev_gf rfl (by assumption) (by rfl) (by rfl) ?_)
  refine ev_albN (i := i) rfl (by assumption) (by rfl) (by omega) (by omega) ?_
  rw [q1]
  repeat (first | refine ev_go rfl (by rfl) ?_ | refine ev_gf rfl (by assumption) (by rfl) (by rfl) ?_)
  refine ev_cv (as := [.int 2]) rfl rfl rfl (by assumption) (by rfl) (by rfl) (kf) ?_
  exact j_ev.ret rfl
/-- a key that a seek may come to -/
def okS (K : Nat → Nat) (κ z t : Nat) : Prop := (z = 0 ∧ κ ≤ K t) ∨ (z = 1 ∧ κ < K t)
theorem okS_iff {K : Nat → Nat} {κ z t : Nat} (hz : z ≤ 1) (ht : t < 1023) : okS K κ z t ↔ κ * 1024 + 1023 * z ≤ oN K t := by
  have : z = 0 ∨ z = 1 := by omega
  unfold okS oN
  rcases this with rfl | rfl
  · constructor
    · rintro (q | q)
      · have := q.2
        omega
      · omega
    · intro q
      exact Or.inl ⟨rfl, by omega⟩
  · constructor
    · rintro (q | q)
      · omega
      · have := q.2
        omega
    · intro q
      exact Or.inr ⟨rfl, by omega⟩
/-- the best so far -/
def Bst (K th : Nat → Nat) (m κ z v : Nat) (a : Int32) : Prop := (a = -1 ∧ ∀ t, t ≤ v → hst K th m t → ¬ okS K κ z t) ∨ ∃ y, a = nI y ∧ y < v ∧ hst K th m (y + 1) ∧ okS K κ z (y + 1) ∧ ∀ t, t ≤ v → hst K th m t → okS K κ z t → K (y + 1) ≤ K t
theorem m_seekL (d : Nat) {x : Int32} {z : Nat} (hz : z ≤ 1) (hP : P ≤ 500) (h70 : mem.2.2 70 = some (.inl (2, 60, .inl b))) (ha : Mar mem K Ln Pl Sz) (hh : Mh K Ln Pl Sz G P) (hn : tp ≤ 40) (hm : m ≤ P) :
    ∀ (g v : Nat) (a : Int32) (x6 : Option Value), v + g = m → Bst (gK G) (gT G) m (ky b tp) z v a → ∃ a', Bst (gK G) (gT G) m (ky b tp) z m a' ∧ ∀ o mo, (∀ x6, j_ev (d + 3) (j_ex tb (d + 2)) (j_tab q_Mo_seek) [] (o) (mo) 166 [some (.ref 69), some (.int x), some (.int (nI z)), some (.int (nI tp)), some (.int (nI m)), some (.int (nI m)), x6] [] (j_set mem 69 (moC 0 0 P sd a'))) → j_ev (d + 3) (j_ex tb (d + 2)) (j_tab q_Mo_seek) [] (o) (mo) 87 [some (.ref 69), some (.int x), some (.int (nI z)), some (.int (nI tp)), some (.int (nI m)), some (.int (nI v)), x6] [] (j_set mem 69 (moC 0 0 P sd a)) := by
  intro g
  induction g with
  | zero =>
    intro v a x6 hv hb
    have hv : v = m := by omega
    subst hv
    refine ⟨a, hb, fun o mo kk => ?_⟩
    have kz := kk x6
    have o3 : (j_set mem 69 (moC 0 0 P sd a)).2.2 69 = some (.inr (11, [.int 0, .int (nI 0), .int (nI P), .int sd, .int a, .ref 70, .ref 71, .ref 72, .ref 73, .ref 74, .ref 75, .ref 76])) := rfl
    generalize j_set mem 69 (moC 0 0 P sd a) = m1 at *
    repeat (first | refine ev_go rfl (by rfl) ?_ | refine ev_gf rfl (by assumption) (by rfl) (by rfl) ?_)
    refine ev_icT rfl (by exact b_le (a := v) (b := v) (by omega) (by omega) (by omega)) ?_
    exact kz
  | succ g ih =>
    intro v a x6 hv hb
    have mo3 : Mo (j_set mem 69 (moC 0 0 P sd a)) 0 0 P sd a := rfl
    have a4 : Mar (j_set mem 69 (moC 0 0 P sd a)) K Ln Pl Sz := Mar_69 ha _
    have t4 : (j_set mem 69 (moC 0 0 P sd a)).2.2 70 = some (.inl (2, 60, .inl b)) := h70
    obtain ⟨r, k1, k2, k3⟩ := m_cmpT (d + 1) (v := v) hP mo3 t4 a4 hh (by omega) hn
    obtain ⟨sb, s1, s2⟩ := m_stands (mem := j_set mem 69 (moC 0 0 P sd a)) (G := G) (P := P) (m := m) (v := v) d hP mo3 a4 hh (by omega) hm
    -- the version is passed over
    have skip : Bst (gK G) (gT G) m (ky b tp) z (v + 1) a → (∀ o mo, j_ev (d + 3) (j_ex tb (d + 2)) (j_tab q_Mo_seek) [] (o) (mo) 160 [some (.ref 69), some (.int x), some (.int (nI z)), some (.int (nI tp)), some (.int (nI m)), some (.int (nI v)), some (.int r)] [] (j_set mem 69 (moC 0 0 P sd a)) → j_ev (d + 3) (j_ex tb (d + 2)) (j_tab q_Mo_seek) [] (o) (mo) 87 [some (.ref 69), some (.int x), some (.int (nI z)), some (.int (nI tp)), some (.int (nI m)), some (.int (nI v)), x6] [] (j_set mem 69 (moC 0 0 P sd a))) →
        ∃ a', Bst (gK G) (gT G) m (ky b tp) z m a' ∧ ∀ o mo, (∀ x6, j_ev (d + 3) (j_ex tb (d + 2)) (j_tab q_Mo_seek) [] (o) (mo) 166 [some (.ref 69), some (.int x), some (.int (nI z)), some (.int (nI tp)), some (.int (nI m)), some (.int (nI m)), x6] [] (j_set mem 69 (moC 0 0 P sd a'))) → j_ev (d + 3) (j_ex tb (d + 2)) (j_tab q_Mo_seek) [] (o) (mo) 87 [some (.ref 69), some (.int x), some (.int (nI z)), some (.int (nI tp)), some (.int (nI m)), some (.int (nI v)), x6] [] (j_set mem 69 (moC 0 0 P sd a)) := by
      intro hb' run
      obtain ⟨a', q1, q2⟩ := ih (v + 1) a (some (.int r)) (by omega) hb'
      refine ⟨a', q1, fun o mo kk => run o mo ?_⟩
      have zz := q2 o mo kk
      clear q2 run
      rw [← nI_1 v] at zz
      generalize j_set mem 69 (moC 0 0 P sd a) = m1 at *
      repeat (first | exact zz | refine ev_go rfl (by rfl) ?_ | refine ev_gf rfl (by assumption) (by rfl) (by rfl) ?_)
    have o3 : (j_set mem 69 (moC 0 0 P sd a)).2.2 69 = some (.inr (11, [.int 0, .int (nI 0), .int (nI P), .int sd, .int a, .ref 70, .ref 71, .ref 72, .ref 73, .ref 74, .ref 75, .ref 76])) := rfl
    have notok : ¬ okS (gK G) (ky b tp) z (v + 1) → Bst (gK G) (gT G) m (ky b tp) z (v + 1) a := fun hno => by
      rcases hb with ⟨q1, q2⟩ | ⟨y, q1, q2, q3, q4, q5⟩
      · refine Or.inl ⟨q1, fun t ht hs => ?_⟩
        by_cases e : t = v + 1
        · rw [e]; exact hno
        · exact q2 t (by omega) hs
      · refine Or.inr ⟨y, q1, by omega, q3, q4, fun t ht hs hok => ?_⟩
        by_cases e : t = v + 1
        · rw [e] at hok
          exact absurd hok hno
        · exact q5 t (by omega) hs hok
    have hz01 : z = 0 ∨ z = 1 := by omega
    by_cases c1 : gK G (v + 1) < ky b tp
    · refine skip (notok (fun q => by rcases q with q | q <;> omega)) (fun o mo kk => ?_)
      have hr := k2.mpr c1
      clear skip
      generalize j_set mem 69 (moC 0 0 P sd a) = m1 at *
      repeat (first | refine ev_go rfl (by rfl) ?_ | refine ev_gf rfl (by assumption) (by rfl) (by rfl) ?_)
      refine ev_icF rfl (by exact b_nle (a := m) (b := v) (by omega) (by omega) (by omega)) ?_
      repeat (first | refine ev_go rfl (by rfl) ?_ | refine ev_gf rfl (by assumption) (by rfl) (by rfl) ?_)
      refine ev_cv (as := [.int (nI v), .int (nI tp)]) rfl rfl rfl (by assumption) (by rfl) (by rfl) (k1) ?_
      repeat (first | refine ev_go rfl (by rfl) ?_ | refine ev_gf rfl (by assumption) (by rfl) (by rfl) ?_)
      refine ev_ifT rfl (by exact decide_eq_true hr) ?_
      exact kk
    · have hr : ¬ r < 0 := fun q => c1 (k2.mp q)
      by_cases c2 : z = 1 ∧ gK G (v + 1) = ky b tp
      · refine skip (notok (fun q => by rcases q with q | q <;> omega)) (fun o mo kk => ?_)
        have hr0 := k3.mpr c2.2
        clear skip
        obtain ⟨rfl, -⟩ := c2
        subst hr0
        generalize j_set mem 69 (moC 0 0 P sd a) = m1 at *
        repeat (first | refine ev_go rfl (by rfl) ?_ | refine ev_gf rfl (by assumption) (by rfl) (by rfl) ?_)
        refine ev_icF rfl (by exact b_nle (a := m) (b := v) (by omega) (by omega) (by omega)) ?_
        repeat (first | refine ev_go rfl (by rfl) ?_ | refine ev_gf rfl (by assumption) (by rfl) (by rfl) ?_)
        refine ev_cv (as := [.int (nI v), .int (nI tp)]) rfl rfl rfl (by assumption) (by rfl) (by rfl) (k1) ?_
        repeat (first | exact kk | refine ev_go rfl (by rfl) ?_ | refine ev_gf rfl (by assumption) (by rfl) (by rfl) ?_)
      · have hok : okS (gK G) (ky b tp) z (v + 1) := by
          rcases hz01 with e | e
          · exact Or.inl ⟨e, by omega⟩
          · refine Or.inr ⟨e, ?_⟩
            have : ¬ gK G (v + 1) = ky b tp := fun q => c2 ⟨e, q⟩
            omega
        -- up to pc 120
        have p120 : ∀ o mo, j_ev (d + 3) (j_ex tb (d + 2)) (j_tab q_Mo_seek) [] (o) (mo) 120 [some (.ref 69), some (.int x), some (.int (nI z)), some (.int (nI tp)), some (.int (nI m)), some (.int (nI v)), some (.int r)] [] (j_set mem 69 (moC 0 0 P sd a)) → j_ev (d + 3) (j_ex tb (d + 2)) (j_tab q_Mo_seek) [] (o) (mo) 87 [some (.ref 69), some (.int x), some (.int (nI z)), some (.int (nI tp)), some (.int (nI m)), some (.int (nI v)), x6] [] (j_set mem 69 (moC 0 0 P sd a)) := by
          intro o mo kk
          clear skip
          generalize j_set mem 69 (moC 0 0 P sd a) = m1 at *
          rcases hz01 with e | e
          · subst e
            repeat (first | refine ev_go rfl (by rfl) ?_ | refine ev_gf rfl (by assumption) (by rfl) (by rfl) ?_)
            refine ev_icF rfl (by exact b_nle (a := m) (b := v) (by omega) (by omega) (by omega)) ?_
            repeat (first | refine ev_go rfl (by rfl) ?_ | refine ev_gf rfl (by assumption) (by rfl) (by rfl) ?_)
            refine ev_cv (as := [.int (nI v), .int (nI tp)]) rfl rfl rfl (by assumption) (by rfl) (by rfl) (k1) ?_
            repeat (first | refine ev_go rfl (by rfl) ?_ | refine ev_gf rfl (by assumption) (by rfl) (by rfl) ?_)
            refine ev_ifF rfl (by exact decide_eq_false hr) ?_
            repeat (first | exact kk | refine ev_go rfl (by rfl) ?_ | refine ev_gf rfl (by assumption) (by rfl) (by rfl) ?_)
          · subst e
            have hr0 : ¬ r = 0 := fun q => c2 ⟨rfl, k3.mp q⟩
            repeat (first | refine ev_go rfl (by rfl) ?_ | refine ev_gf rfl (by assumption) (by rfl) (by rfl) ?_)
            refine ev_icF rfl (by exact b_nle (a := m) (b := v) (by omega) (by omega) (by omega)) ?_
            repeat (first | refine ev_go rfl (by rfl) ?_ | refine ev_gf rfl (by assumption) (by rfl) (by rfl) ?_)
            refine ev_cv (as := [.int (nI v), .int (nI tp)]) rfl rfl rfl (by assumption) (by rfl) (by rfl) (k1) ?_
            repeat (first | refine ev_go rfl (by rfl) ?_ | refine ev_gf rfl (by assumption) (by rfl) (by rfl) ?_)
            refine ev_ifF rfl (by exact decide_eq_false hr) ?_
            repeat (first | refine ev_go rfl (by rfl) ?_ | refine ev_gf rfl (by assumption) (by rfl) (by rfl) ?_)
            refine ev_ifT rfl (by exact decide_eq_true hr0) ?_
            exact kk
        -- from pc 143 on
        have tail : (∀ o mo, j_ev (d + 3) (j_ex tb (d + 2)) (j_tab q_Mo_seek) [] (o) (mo) 143 [some (.ref 69), some (.int x), some (.int (nI z)), some (.int (nI tp)), some (.int (nI m)), some (.int (nI v)), some (.int r)] [] (j_set mem 69 (moC 0 0 P sd a)) → j_ev (d + 3) (j_ex tb (d + 2)) (j_tab q_Mo_seek) [] (o) (mo) 120 [some (.ref 69), some (.int x), some (.int (nI z)), some (.int (nI tp)), some (.int (nI m)), some (.int (nI v)), some (.int r)] [] (j_set mem 69 (moC 0 0 P sd a))) → (∀ t, t ≤ v → hst (gK G) (gT G) m t → okS (gK G) (ky b tp) z t → gK G (v + 1) ≤ gK G t) →
            ∃ a', Bst (gK G) (gT G) m (ky b tp) z m a' ∧ ∀ o mo, (∀ x6, j_ev (d + 3) (j_ex tb (d + 2)) (j_tab q_Mo_seek) [] (o) (mo) 166 [some (.ref 69), some (.int x), some (.int (nI z)), some (.int (nI tp)), some (.int (nI m)), some (.int (nI m)), x6] [] (j_set mem 69 (moC 0 0 P sd a'))) → j_ev (d + 3) (j_ex tb (d + 2)) (j_tab q_Mo_seek) [] (o) (mo) 87 [some (.ref 69), some (.int x), some (.int (nI z)), some (.int (nI tp)), some (.int (nI m)), some (.int (nI v)), x6] [] (j_set mem 69 (moC 0 0 P sd a)) := by
          intro run hmin
          cases hsb : sb with
          | false =>
            rw [hsb] at s1 s2
            have hns : ¬ hst (gK G) (gT G) m (v + 1) := fun q => by have := s1.mpr q; cases this
            refine skip ?_ (fun o mo kk => p120 o mo (run o mo ?_))
            · rcases hb with ⟨q1, q2⟩ | ⟨y, q1, q2, q3, q4, q5⟩
              · refine Or.inl ⟨q1, fun t ht hs => ?_⟩
                by_cases e : t = v + 1
                · rw [e] at hs
                  exact absurd hs hns
                · exact q2 t (by omega) hs
              · refine Or.inr ⟨y, q1, by omega, q3, q4, fun t ht hs hok => ?_⟩
                by_cases e : t = v + 1
                · rw [e] at hs
                  exact absurd hs hns
                · exact q5 t (by omega) hs hok
            · clear skip run p120
              generalize j_set mem 69 (moC 0 0 P sd a) = m1 at *
              repeat (first | refine ev_go rfl (by rfl) ?_ | refine ev_gf rfl (by assumption) (by rfl) (by rfl) ?_)
              refine ev_cv (as := [.int (nI v), .int (nI m)]) rfl rfl rfl (by assumption) (by rfl) (by rfl) (s2) ?_
              repeat (first | exact kk | refine ev_go rfl (by rfl) ?_ | refine ev_gf rfl (by assumption) (by rfl) (by rfl) ?_)
          | true =>
            rw [hsb] at s1 s2
            have hst1 := s1.mp rfl
            obtain ⟨a', q1, q2⟩ := ih (v + 1) (nI v) (some (.int r)) (by omega) (Or.inr ⟨v, rfl, by omega, hst1, hok, fun t ht hs hokt => by
              by_cases e : t = v + 1
              · rw [e]
                exact Nat.le_refl _
              · exact hmin t (by omega) hs hokt⟩)
            refine ⟨a', q1, fun o mo kk => p120 o mo (run o mo ?_)⟩
            have zz := q2 o mo kk
            clear skip run p120 q2
            have e5 : j_set (j_set mem 69 (moC 0 0 P sd a)) 69 (moC 0 0 P sd (nI v)) = j_set mem 69 (moC 0 0 P sd (nI v)) := st_st _ _ _ _
            generalize j_set mem 69 (moC 0 0 P sd (nI v)) = m2 at *
            generalize j_set mem 69 (moC 0 0 P sd a) = m1 at *
            rw [← nI_1 v] at zz
            repeat (first | refine ev_go rfl (by rfl) ?_ | refine ev_gf rfl (by assumption) (by rfl) (by rfl) ?_)
            refine ev_cv (as := [.int (nI v), .int (nI m)]) rfl rfl rfl (by assumption) (by rfl) (by rfl) (s2) ?_
            repeat (first | refine ev_go rfl (by rfl) ?_ | refine ev_gf rfl (by assumption) (by rfl) (by rfl) ?_)
            refine ev_pf rfl (by assumption) (by rfl) (by rfl) (by rfl) ?_
            refine ev_m (mem' := m2) e5 ?_
            repeat (first | exact zz | refine ev_go rfl (by rfl) ?_ | refine ev_gf rfl (by assumption) (by rfl) (by rfl) ?_)
        rcases hb with ⟨q1, q2⟩ | ⟨y, q1, q2, q3, q4, q5⟩
        · refine tail (fun o mo kk => ?_) (fun t ht hs hokt => absurd hokt (q2 t ht hs))
          clear tail skip p120
          subst q1
          generalize j_set mem 69 (moC 0 0 P sd (-1)) = m1 at *
          repeat (first | exact kk | refine ev_go rfl (by rfl) ?_ | refine ev_gf rfl (by assumption) (by rfl) (by rfl) ?_)
        · have hyP : y < P := by omega
          obtain ⟨r2, c1', c2', c3'⟩ := m_cmp (d + 1) (v := v) (w := y) hP mo3 a4 hh (by omega) hyP
          by_cases ck : gK G (v + 1) < gK G (y + 1)
          · refine tail (fun o mo kk => ?_) (fun t ht hs hokt => by
              have := q5 t ht hs hokt
              omega)
            have hr2 := c2'.mpr ck
            clear tail skip p120
            subst q1
            generalize j_set mem 69 (moC 0 0 P sd (nI y)) = m1 at *
            repeat (first | refine ev_go rfl (by rfl) ?_ | refine ev_gf rfl (by assumption) (by rfl) (by rfl) ?_)
            refine ev_ifF rfl (by exact b_nlt (a := y) (b := 0) (by omega) (by omega) (by omega)) ?_
            repeat (first | refine ev_go rfl (by rfl) ?_ | refine ev_gf rfl (by assumption) (by rfl) (by rfl) ?_)
            refine ev_cv (as := [.int (nI v), .int (nI y)]) rfl rfl rfl (by assumption) (by rfl) (by rfl) (c1') ?_
            refine ev_ifT rfl (by exact decide_eq_true hr2) ?_
            exact kk
          · have hr2 : ¬ r2 < 0 := fun q => ck (c2'.mp q)
            refine skip (Or.inr ⟨y, q1, by omega, q3, q4, fun t ht hs hokt => ?_⟩) (fun o mo kk => p120 o mo ?_)
            · by_cases e : t = v + 1
              · rw [e]
                omega
              · exact q5 t (by omega) hs hokt
            · clear tail skip p120
              subst q1
              generalize j_set mem 69 (moC 0 0 P sd (nI y)) = m1 at *
              repeat (first | refine ev_go rfl (by rfl) ?_ | refine ev_gf rfl (by assumption) (by rfl) (by rfl) ?_)
              refine ev_ifF rfl (by exact b_nlt (a := y) (b := 0) (by omega) (by omega) (by omega)) ?_
              repeat (first | refine ev_go rfl (by rfl) ?_ | refine ev_gf rfl (by assumption) (by rfl) (by rfl) ?_)
              refine ev_cv (as := [.int (nI v), .int (nI y)]) rfl rfl rfl (by assumption) (by rfl) (by rfl) (c1') ?_
              refine ev_ifF rfl (by exact decide_eq_false hr2) ?_
              repeat (first | exact kk | refine ev_go rfl (by rfl) ?_ | refine ev_gf rfl (by assumption) (by rfl) (by rfl) ?_)
theorem m_seekV (d : Nat) {x : Int32} {z : Nat} (hz : z ≤ 1) (hP : P ≤ 500) (h : Mo mem fa tp P sd at') (h70 : mem.2.2 70 = some (.inl (2, 60, .inl b))) (ha : Mar mem K Ln Pl Sz) (hh : Mh K Ln Pl Sz G P) (hv : Mv mem s) (hn : tp ≤ 40) (hx : Sees P s x m) (hm : m ≤ P) :
    (∃ t, hst (gK G) (gT G) m t ∧ ky b tp * 1024 + 1023 * z ≤ oN (gK G) t ∧ (∀ t', hst (gK G) (gT G) m t' → ky b tp * 1024 + 1023 * z ≤ oN (gK G) t' → gK G t ≤ gK G t') ∧ j_ex tb (d + 3) m_Mo_seek [.ref 69, .int x, .int (nI z)] mem (.inl (some (.int (nI (v_pl (G t)))))) (j_set mem 69 (moC 0 0 P sd (nI (t - 1))))) ∨
    ((∀ t', hst (gK G) (gT G) m t' → oN (gK G) t' < ky b tp * 1024 + 1023 * z) ∧ j_ex tb (d + 3) m_Mo_seek [.ref 69, .int x, .int (nI z)] mem (.inl (some (.int 0))) (j_set mem 69 (moC 3 0 P sd (-1)))) := by
  obtain ⟨⟨op, p1, p2⟩, sv, p4, p5⟩ := hv
  have o1 := h
  unfold Mo moC at o1
  have o2 : (j_set mem 69 (moC 0 tp P sd at')).2.2 69 = some (.inr (11, [.int 0, .int (nI tp), .int (nI P), .int sd, .int at', .ref 70, .ref 71, .ref 72, .ref 73, .ref 74, .ref 75, .ref 76])) := rfl
  have o3 : (j_set mem 69 (moC 0 0 P sd at')).2.2 69 = some (.inr (11, [.int 0, .int (nI 0), .int (nI P), .int sd, .int at', .ref 70, .ref 71, .ref 72, .ref 73, .ref 74, .ref 75, .ref 76])) := rfl
  have e3 : j_set (j_set mem 69 (moC 0 tp P sd at')) 69 (moC 0 0 P sd at') = j_set mem 69 (moC 0 0 P sd at') := st_st _ _ _ _
  have e4 : j_set (j_set mem 69 (moC 0 0 P sd at')) 69 (moC 0 0 P sd (-1)) = j_set mem 69 (moC 0 0 P sd (-1)) := st_st _ _ _ _
  have p13 : (j_set mem 69 (moC 0 0 P sd at')).2.2 75 = _ := p1
  have p43 : (j_set mem 69 (moC 0 0 P sd at')).2.2 76 = _ := p4
  have lp := m_seekL (mem := mem) (sd := sd) (G := G) (P := P) (m := m) (x := x) d hz hP h70 ha hh hn hm m 0 (-1) none (by omega) (Or.inl ⟨rfl, fun t ht hs => by have := hs.1; omega⟩)
  obtain ⟨a', hb, run⟩ := lp
  have pre : ∀ o mo, j_ev (d + 3) (j_ex tb (d + 2)) (j_tab q_Mo_seek) [] (o) (mo) 87 [some (.ref 69), some (.int x), some (.int (nI z)), some (.int (nI tp)), some (.int (nI m)), some (.int (nI 0)), none] [] (j_set mem 69 (moC 0 0 P sd (-1))) → j_ex tb (d + 3) m_Mo_seek [.ref 69, .int x, .int (nI z)] mem o mo := by
    intro o mo kkk
    clear run
    generalize hm1 : j_set mem 69 (moC 0 tp P sd at') = m1 at *
    generalize hm2 : j_set mem 69 (moC 0 0 P sd at') = m2 at *
    generalize hm3 : j_set mem 69 (moC 0 0 P sd (-1)) = m3 at *
    have post : j_ev (d + 3) (j_ex tb (d + 2)) (j_tab q_Mo_seek) [] (o) (mo) 77 [some (.ref 69), some (.int x), some (.int (nI z)), some (.int (nI tp)), none, none, none] [.int (nI m)] m2 := by
      repeat (first | refine ev_go rfl (by rfl) ?_ | refine ev_gf rfl (by assumption) (by rfl) (by rfl) ?_)
      refine ev_pf rfl (by assumption) (by rfl) (by rfl) (by rfl) ?_
      refine ev_m (mem' := m3) e4 ?_
      repeat (first | exact kkk | refine ev_go rfl (by rfl) ?_ | refine ev_gf rfl (by assumption) (by rfl) (by rfl) ?_)
    clear kkk
    rcases hx with ⟨rfl, rfl⟩ | ⟨i, rfl, hi, hsi⟩
    · refine ⟨e_Mo_seek, rfl, Nat.le_of_ble_eq_true rfl, ?_⟩
      repeat (first | refine ev_go rfl (by rfl) ?_ | refine ev_gf rfl (by assumption) (by rfl) (by rfl) ?_)
      refine ev_pf rfl (by assumption) (by rfl) (by rfl) (by rfl) ?_
      refine ev_m (mem' := m1) hm1 ?_
      repeat (first | refine ev_go rfl (by rfl) ?_ | refine ev_gf rfl (by assumption) (by rfl) (by rfl) ?_)
      refine ev_icF rfl (by exact b_nlt (a := 40) (b := tp) (by omega) (by omega) (by omega)) ?_
      repeat (first | refine ev_go rfl (by rfl) ?_ | refine ev_gf rfl (by assumption) (by rfl) (by rfl) ?_)
      refine ev_pf rfl (by assumption) (by rfl) (by rfl) (by rfl) ?_
      refine ev_m (mem' := m2) e3 ?_
      repeat (first | exact post | refine ev_go rfl (by rfl) ?_ | refine ev_gf rfl (by assumption) (by rfl) (by rfl) ?_)
    · have hr := v_rng7 i hi
      have q1 := p2 i hi
      rw [hsi] at q1
      have q2 := p5 i m hi hsi
      rw [← q2] at post
      refine ⟨e_Mo_seek, rfl, Nat.le_of_ble_eq_true rfl, ?_⟩
      repeat (first | refine ev_go rfl (by rfl) ?_ | refine ev_gf rfl (by assumption) (by rfl) (by rfl) ?_)
      refine ev_pf rfl (by assumption) (by rfl) (by rfl) (by rfl) ?_
      refine ev_m (mem' := m1) hm1 ?_
      repeat (first | refine ev_go rfl (by rfl) ?_ | refine ev_gf rfl (by assumption) (by rfl) (by rfl) ?_)
      refine ev_icF rfl (by exact b_nlt (a := 40) (b := tp) (by omega) (by omega) (by omega)) ?_
      repeat (first | refine ev_go rfl (by rfl) ?_ | refine ev_gf rfl (by assumption) (by rfl) (by rfl) ?_)
      refine ev_icF rfl (decide_eq_false hr.1) ?_
      repeat (first | refine ev_go rfl (by rfl) ?_ | refine ev_gf rfl (by assumption) (by rfl) (by rfl) ?_)
      refine ev_icT rfl (decide_eq_true hr.2.1) ?_
      repeat (first | refine ev_go rfl (by rfl) ?_ | refine ev_gf rfl (by assumption) (by rfl) (by rfl) ?_)
      refine ev_pf rfl (by assumption) (by rfl) (by rfl) (by rfl) ?_
      refine ev_m (mem' := m2) e3 ?_
      repeat (first | refine ev_go rfl (by rfl) ?_ | refine ev_gf rfl (by assumption) (by rfl) (by rfl) ?_)
      refine ev_ifF rfl (decide_eq_false hr.2.2.1) ?_
      repeat (first | refine ev_go rfl (by rfl) ?_ | refine ev_gf rfl (by assumption) (by rfl) (by rfl) ?_)
      refine ev_albN (i := i) rfl (by assumption) (by rfl) (by omega) (by omega) ?_
      rw [q1]
      repeat (first | refine ev_go rfl (by rfl) ?_ | refine ev_gf rfl (by assumption) (by rfl) (by rfl) ?_)
      refine ev_ifT rfl (decide_eq_true hr.2.2.2) ?_
      repeat (first | refine ev_go rfl (by rfl) ?_ | refine ev_gf rfl (by assumption) (by rfl) (by rfl) ?_)
      refine ev_aliN (i := i) rfl (by assumption) (by omega) (by omega) ?_
      exact post
  have hlt : ∀ t, hst (gK G) (gT G) m t → t < 1023 := fun t ht => by have := ht.2.1; omega
  rcases hb with ⟨q1, q2⟩ | ⟨y, q1, q2, q3, q4, q5⟩
  · refine Or.inr ⟨fun t ht => ?_, pre _ _ (run _ _ (fun x6 => ?_))⟩
    · have := q2 t ht.2.1 ht
      rw [okS_iff hz (hlt t ht)] at this
      omega
    · subst q1
      have mo3 : Mo (j_set mem 69 (moC 0 0 P sd (-1))) 0 0 P sd (-1) := rfl
      have kf := x_Mo_fail (d + 1) 3 mo3
      rw [st_st] at kf
      have o4 : (j_set mem 69 (moC 0 0 P sd (-1))).2.2 69 = some (.inr (11, [.int 0, .int (nI 0), .int (nI P), .int sd, .int (-1), .ref 70, .ref 71, .ref 72, .ref 73, .ref 74, .ref 75, .ref 76])) := rfl
      clear run pre
      generalize j_set mem 69 (moC 0 0 P sd (-1)) = m3 at *
      generalize j_set mem 69 (moC 3 0 P sd (-1)) = m4 at *
      repeat (first | refine ev_go rfl (by rfl) ?_ | refine ev_gf rfl (by assumption) (by rfl) (by rfl) ?_)
      refine ev_cv (as := [.int 3]) rfl rfl rfl (by assumption) (by rfl) (by rfl) (kf) ?_
      repeat (first | refine ev_go rfl (by rfl) ?_ | refine ev_gf rfl (by assumption) (by rfl) (by rfl) ?_)
      exact j_ev.ret rfl
  · refine Or.inl ⟨y + 1, q3, (okS_iff hz (hlt _ q3)).mp q4, fun t' ht' hk => q5 t' ht'.2.1 ht' ((okS_iff hz (hlt _ ht')).mpr hk), pre _ _ ?_⟩
    rw [show y + 1 - 1 = y by omega]
    subst q1
    refine run _ _ (fun x6 => ?_)
    obtain ⟨-, -, -, h4, -⟩ := hh y (by omega)
    have h5 := (h4 q3.2.2.1).1
    have s73 : (j_set mem 69 (moC 0 0 P sd (nI y))).2.2 73 = _ := ha.2.2.1
    have o4 : (j_set mem 69 (moC 0 0 P sd (nI y))).2.2 69 = some (.inr (11, [.int 0, .int (nI 0), .int (nI P), .int sd, .int (nI y), .ref 70, .ref 71, .ref 72, .ref 73, .ref 74, .ref 75, .ref 76])) := rfl
    clear run pre
    generalize j_set mem 69 (moC 0 0 P sd (nI y)) = m3 at *
    repeat (first | refine ev_go rfl (by rfl) ?_ | refine ev_gf rfl (by assumption) (by rfl) (by rfl) ?_)
    refine ev_ifT rfl (by exact b_le (a := 0) (b := y) (by omega) (by omega) (by omega)) ?_
    repeat (first | refine ev_go rfl (by rfl) ?_ | refine ev_gf rfl (by assumption) (by rfl) (by rfl) ?_)
    refine ev_aliN (i := y) rfl (by assumption) (by omega) (by omega) ?_
    rw [h5]
    exact j_ev.ret rfl
end MSEEK
