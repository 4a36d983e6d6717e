/-! LEVELTABLES: seek; refused finds and seeks (own text) -/
section SEEK
variable {mem mem' : j_M} {G : Nat → Nat → Int64} {P : Nat} {s s' : Nat → Option Nat} {sh sh' lv lv' : Int32} {mm : List Nat} {LV : Nat → List TG} {J Q L m : Nat} {b : Nat → Int32}
theorem x_LT_findR (d : Nat) (hd : 6 ≤ d) {x : Int32} (h : LT mem sh lv) (hT : Ta mem L b) (hL : L ≤ 60) (hn : x < -1 ∨ 8 ≤ x ∨ ¬ (1 ≤ L ∧ L ≤ 40)) : j_ex tb (d + 2) m_LT_find [.ref 4, .int x] mem (.inr (0, mem.1)) (thr mem) := by
  have l0 : mem.2.2 4 = _ := h
  have kh := x_Tp_hasKey d hT hL
  have t5 := hT.1
  refine ⟨e_LT_find, rfl, Nat.le_of_ble_eq_true rfl, ?_⟩
  repeat (first | refine ev_go rfl (by rfl) ?_ | refine ev_gf rfl (by assumption) (by rfl) (by rfl) ?_)
  by_cases c1 : x < -1
  · refine ev_icT rfl (decide_eq_true c1) ?_
    exact j_ev.throw rfl (by omega)
  · refine ev_icF rfl (decide_eq_false c1) ?_
    repeat (first | refine ev_go rfl (by rfl) ?_ | refine ev_gf rfl (by assumption) (by rfl) (by rfl) ?_)
    by_cases c2 : (8 : Int32) ≤ x
    · refine ev_icT rfl (decide_eq_true c2) ?_
      exact j_ev.throw rfl (by omega)
    · refine ev_icF rfl (decide_eq_false c2) ?_
      have hn : ¬ (1 ≤ L ∧ L ≤ 40) := by
        rcases hn with q | q | q
        · exact absurd q c1
        · exact absurd q c2
        · exact q
      rw [if_neg hn] at kh
      repeat (first | refine ev_go rfl (by rfl) ?_ | refine ev_gf rfl (by assumption) (by rfl) (by rfl) ?_)
      refine ev_cv (as := []) rfl rfl rfl (by assumption) (by rfl) (by rfl) (kh) ?_
      repeat (first | refine ev_go rfl (by rfl) ?_ | refine ev_gf rfl (by assumption) (by rfl) (by rfl) ?_)
      exact j_ev.throw rfl (by omega)
theorem x_LT_findS (d : Nat) {i : Nat} (h : Sy mem G P s sh lv mm LV J Q) (hT : Ta mem L b) (hL : 1 ≤ L ∧ L ≤ 40) (hi : i < 8) (hs : s i = none) :
    ∃ mem' a, j_ex tb (d + 11) m_LT_find [.ref 4, .int (nI i)] mem (.inr (1, a)) mem' ∧ Sy mem' G P s sh lv mm LV J (Q + 1) ∧ Ta mem' 0 b ∧ Oy mem mem' := by
  obtain ⟨R, E, C, B, Wn, T, U, D, hb, hsb⟩ := Sy_bs h
  obtain ⟨fk, hfk⟩ := hsb.2.2.2.2.1 20 (by unfold vcell; omega)
  obtain ⟨f', ks, k1⟩ := x_LT_readT (d + 6) (by omega) hsb.1 hT hL.2 hsb.2.1 hfk hi hs
  obtain ⟨sy1, ta1, ve1, oz1⟩ := sy_mvd (f' := f') h hT
  have l0 := Sy_lt h
  have t5 := hT.1
  have kh := x_Tp_hasKey (d + 9) hT (by omega)
  rw [if_pos hL] at kh
  have hok := v_rng i hi
  have h78 := Sy_78 sy1
  have oy : Oy mem (thr (mvd mem f')) := fun c hc => by
    rw [thr_c (by omega)]
    unfold mvd
    rw [st_ne _ _ (by omega), st_ne _ _ (by omega)]
  refine ⟨_, mem.1, ?_, Sy_thr sy1, ⟨(thr_c (by omega)).trans ta1.1, (thr_c (by omega)).trans ta1.2⟩, oy⟩
  refine ⟨e_LT_find, rfl, Nat.le_of_ble_eq_true rfl, ?_⟩
  repeat (first | refine ev_go rfl (by rfl) ?_ | refine ev_gf rfl (by assumption) (by rfl) (by rfl) ?_)
  refine ev_icF rfl (decide_eq_false hok.1) ?_
  repeat (first | refine ev_go rfl (by rfl) ?_ | refine ev_gf rfl (by assumption) (by rfl) (by rfl) ?_)
  refine ev_icF rfl (decide_eq_false hok.2) ?_
  repeat (first | refine ev_go rfl (by rfl) ?_ | refine ev_gf rfl (by assumption) (by rfl) (by rfl) ?_)
  refine ev_cv (as := []) rfl rfl rfl (by assumption) (by rfl) (by rfl) (kh) ?_
  repeat (first | refine ev_go rfl (by rfl) ?_ | refine ev_gf rfl (by assumption) (by rfl) (by rfl) ?_)
  exact ev_cvP (as := [.int (nI i)]) rfl rfl rfl (by assumption) (by rfl) (by rfl) k1
theorem x_LT_seekR (d : Nat) (hd : 6 ≤ d) {x z : Int32} (h : LT mem sh lv) (hT : Ta mem L b) (hL : L ≤ 60) (hn : x < -1 ∨ 8 ≤ x ∨ 40 < L) : j_ex tb (d + 2) m_LT_seek [.ref 4, .int x, .int z] mem (.inr (0, mem.1)) (thr mem) := by
  have l0 : mem.2.2 4 = _ := h
  have kh := x_Tp_length d hT
  have t5 := hT.1
  refine ⟨e_LT_seek, rfl, Nat.le_of_ble_eq_true rfl, ?_⟩
  repeat (first | refine ev_go rfl (by rfl) ?_ | refine ev_gf rfl (by assumption) (by rfl) (by rfl) ?_)
  by_cases c1 : x < -1
  · refine ev_icT rfl (decide_eq_true c1) ?_
    exact j_ev.throw rfl (by omega)
  · refine ev_icF rfl (decide_eq_false c1) ?_
    repeat (first | refine ev_go rfl (by rfl) ?_ | refine ev_gf rfl (by assumption) (by rfl) (by rfl) ?_)
    by_cases c2 : (8 : Int32) ≤ x
    · refine ev_icT rfl (decide_eq_true c2) ?_
      exact j_ev.throw rfl (by omega)
    · refine ev_icF rfl (decide_eq_false c2) ?_
      have hn : 40 < L := by
        rcases hn with q | q | q
        · exact absurd q c1
        · exact absurd q c2
        · exact q
      repeat (first | refine ev_go rfl (by rfl) ?_ | refine ev_gf rfl (by assumption) (by rfl) (by rfl) ?_)
      refine ev_cv (as := []) rfl rfl rfl (by assumption) (by rfl) (by rfl) (kh) ?_
      repeat (first | refine ev_go rfl (by rfl) ?_ | refine ev_gf rfl (by assumption) (by rfl) (by rfl) ?_)
      refine ev_icF rfl (by exact b_nle (a := L) (b := 40) (by omega) (by omega) (by omega)) ?_
      exact j_ev.throw rfl (by omega)
theorem x_LT_seekS (d : Nat) {i : Nat} {z : Int32} (h : Sy mem G P s sh lv mm LV J Q) (hT : Ta mem L b) (hL : L ≤ 40) (hi : i < 8) (hs : s i = none) :
    ∃ mem' a, j_ex tb (d + 12) m_LT_seek [.ref 4, .int (nI i), .int z] mem (.inr (1, a)) mem' ∧ Sy mem' G P s sh lv mm LV J (Q + 1) ∧ Ta mem' 0 b ∧ Oy mem mem' := by
  obtain ⟨R, E, C, B, Wn, T, U, D, hb, hsb⟩ := Sy_bs h
  obtain ⟨fk, hfk⟩ := hsb.2.2.2.2.1 20 (by unfold vcell; omega)
  obtain ⟨f', ks, k1⟩ := x_LT_readT (d + 7) (by omega) hsb.1 hT hL hsb.2.1 hfk hi hs
  obtain ⟨sy1, ta1, ve1, oz1⟩ := sy_mvd (f' := f') h hT
  have l0 := Sy_lt h
  have t5 := hT.1
  have kh := x_Tp_length (d + 10) hT
  have hok := v_rng i hi
  have h78 := Sy_78 sy1
  have oy : Oy mem (thr (mvd mem f')) := fun c hc => by
    rw [thr_c (by omega)]
    unfold mvd
    rw [st_ne _ _ (by omega), st_ne _ _ (by omega)]
  refine ⟨_, mem.1, ?_, Sy_thr sy1, ⟨(thr_c (by omega)).trans ta1.1, (thr_c (by omega)).trans ta1.2⟩, oy⟩
  refine ⟨e_LT_seek, rfl, Nat.le_of_ble_eq_true rfl, ?_⟩
  repeat (first | refine ev_go rfl (by rfl) ?_ | refine ev_gf rfl (by assumption) (by rfl) (by rfl) ?_)
  refine ev_icF rfl (decide_eq_false hok.1) ?_
  repeat (first | refine ev_go rfl (by rfl) ?_ | refine ev_gf rfl (by assumption) (by rfl) (by rfl) ?_)
  refine ev_icF rfl (decide_eq_false hok.2) ?_
  repeat (first | refine ev_go rfl (by rfl) ?_ | refine ev_gf rfl (by assumption) (by rfl) (by rfl) ?_)
  refine ev_cv (as := []) rfl rfl rfl (by assumption) (by rfl) (by rfl) (kh) ?_
  repeat (first | refine ev_go rfl (by rfl) ?_ | refine ev_gf rfl (by assumption) (by rfl) (by rfl) ?_)
  refine ev_icT rfl (by exact b_le (a := L) (b := 40) (by omega) (by omega) (by omega)) ?_
  repeat (first | refine ev_go rfl (by rfl) ?_ | refine ev_gf rfl (by assumption) (by rfl) (by rfl) ?_)
  exact ev_cvP (as := [.int (nI i)]) rfl rfl rfl (by assumption) (by rfl) (by rfl) k1
theorem x_LT_seek (d : Nat) {x : Int32} {z : Nat} (hz : z ≤ 1) (h : Sy mem G P s sh lv mm LV J Q) (hp : Pu G P mm LV) (hT : Ta mem L b) (hL : L ≤ 40) (hx : Sees P s x m) (hm : m ≤ 500) :
    (∃ mem' y f', j_ex tb (d + 12) m_LT_seek [.ref 4, .int x, .int (nI z)] mem (.inl (some (.int (nI (v_pl (G y)))))) mem' ∧ Sy mem' G P s 1 lv mm LV J Q ∧ Ta mem' 0 b ∧ Ve mem' 30 31 f' ∧ sw f' (G y) ∧ sst (gK G) (gT G) (mem5 (rms mm LV)) m y ∧ ky b L * 1024 + 1023 * z ≤ oN (gK G) y ∧ (∀ t, sst (gK G) (gT G) (mem5 (rms mm LV)) m t → ky b L * 1024 + 1023 * z ≤ oN (gK G) t → oN (gK G) y ≤ oN (gK G) t) ∧ Oz mem mem') ∨
    (∃ mem' a, j_ex tb (d + 12) m_LT_seek [.ref 4, .int x, .int (nI z)] mem (.inr (3, a)) mem' ∧ Sy mem' G P s 0 lv mm LV J (Q + 1) ∧ Ta mem' 0 b ∧ (∀ t, sst (gK G) (gT G) (mem5 (rms mm LV)) m t → oN (gK G) t < ky b L * 1024 + 1023 * z) ∧ Oz mem mem') := by
  obtain ⟨R, E, C, B, Wn, T, U, D, hb, hsb⟩ := Sy_bs h
  obtain ⟨fk, hfk⟩ := hsb.2.2.2.2.1 20 (by unfold vcell; omega)
  obtain ⟨f', ks, k1⟩ := x_LT_read (d + 7) hsb.1 hT hL hsb.2.1 hfk (by omega) hx
  obtain ⟨sy1, ta1, ve1, oz1⟩ := sy_mvd (f' := f') h hT
  generalize hm1 : mvd mem f' = m1 at *
  obtain ⟨R1, E1, C1, B1, Wn1, T1, U1, D1, hb1, hsb1⟩ := Sy_bs sy1
  have kset := x_Ve_setMoment (d + 8) (m := 1023 * z) ve1 (by omega) (by omega)
  change j_ex tb (d + 8 + 3) m_Ve_setMoment [.ref 20, .int (nI (1023 * z))] m1 (.inl none) (j_set m1 21 (vW (v_at f' (1023 * z)))) at kset
  have hord : v_ord (v_at f' (1023 * z)) = ky b L * 1024 + 1023 * z := by rw [v_at_ord (by omega), kS_key (by omega) ks]
  generalize v_at f' (1023 * z) = fk2 at kset hord
  have xk : ∀ c, c ≠ 21 → (j_set m1 21 (vW fk2)).2.2 c = m1.2.2 c := fun c hc => st_ne _ _ hc
  have syk : Sy (j_set m1 21 (vW fk2)) G P s sh lv mm LV J Q := Sy_ag sy1 rfl rfl (fun c c1 c2 c3 c4 c5 c6 c7 => xk c c5) ((xk 4 (by omega)).trans hsb1.1) ⟨(xk 7 (by omega)).trans hsb1.2.1.1, (xk 8 (by omega)).trans hsb1.2.1.2⟩ (Vs_set (v := 20) hsb1.2.2.2.2.1 (by unfold vcell; omega) fk2)
  have vek : Ve (j_set m1 21 (vW fk2)) 20 21 fk2 := ⟨(xk 20 (by omega)).trans ve1.1, st_same _ _ _⟩
  have tak : Ta (j_set m1 21 (vW fk2)) 0 b := ⟨(xk 5 (by omega)).trans ta1.1, (xk 6 (by omega)).trans ta1.2⟩
  have ozk : Oz m1 (j_set m1 21 (vW fk2)) := fun c hc => xk c (by omega)
  generalize hmk : j_set m1 21 (vW fk2) = mk1 at *
  obtain ⟨m2, bb, k2, sy2, sf2, hbb⟩ := x_LT_reach (d + 1) (m := m) hm syk hp vek
  rw [hord] at hbb
  have ta2 : Ta m2 0 b := ⟨(sf2.2.2 5 (by unfold scell; omega)).trans tak.1, (sf2.2.2 6 (by unfold scell; omega)).trans tak.2⟩
  have oz2 : Oz mk1 m2 := fun c hc => sf2.2.2 c (by unfold scell; omega)
  have l0 := Sy_lt h
  have l1 := Sy_lt sy1
  have lk := Sy_lt syk
  have l2 := Sy_lt sy2
  have t5 := hT.1
  have v20 := ve1.1
  have kh := x_Tp_length (d + 10) hT
  have hok := Sees_ok hx
  have hz01 : z = 0 ∨ z = 1 := by omega
  rcases hbb with ⟨q, q1⟩ | ⟨q, y, ff, q1, q2, q3, q4, q5⟩
  · subst q
    obtain ⟨m3, k3, sy3, x3⟩ := sy_showN (d + 9) (by omega) sy2
    refine Or.inr ⟨m3, m2.1, ?_, sy3, ⟨(x3 5 (by omega) (by omega)).trans ta2.1, (x3 6 (by omega) (by omega)).trans ta2.2⟩, q1, Oz_trans oz1 (Oz_trans ozk (Oz_trans oz2 (fun c hc => x3 c (by omega) (by omega))))⟩
    rcases hz01 with rfl | rfl
    · refine ⟨e_LT_seek, rfl, Nat.le_of_ble_eq_true rfl, ?_⟩
      repeat (first | refine ev_go rfl (by rfl) ?_ | refine ev_gf rfl (by assumption) (by rfl) (by rfl) ?_)
      refine ev_icF rfl (decide_eq_false hok.1) ?_
      repeat (first | refine ev_go rfl (by rfl) ?_ | refine ev_gf rfl (by assumption) (by rfl) (by rfl) ?_)
      refine ev_icF rfl (decide_eq_false hok.2) ?_
      repeat (first | refine ev_go rfl (by rfl) ?_ | refine ev_gf rfl (by assumption) (by rfl) (by rfl) ?_)
      refine ev_cv (as := []) rfl rfl rfl (by assumption) (by rfl) (by rfl) (kh) ?_
      repeat (first | refine ev_go rfl (by rfl) ?_ | refine ev_gf rfl (by assumption) (by rfl) (by rfl) ?_)
      refine ev_icT rfl (by exact b_le (a := L) (b := 40) (by omega) (by omega) (by omega)) ?_
      repeat (first | refine ev_go rfl (by rfl) ?_ | refine ev_gf rfl (by assumption) (by rfl) (by rfl) ?_)
      refine ev_cv (as := [.int x]) rfl rfl rfl (by assumption) (by rfl) (by rfl) (k1) ?_
      repeat (first | refine ev_go rfl (by rfl) ?_ | refine ev_gf rfl (by assumption) (by rfl) (by rfl) ?_)
      refine ev_cv (as := [.int (nI (1023 * 0))]) rfl rfl rfl (by assumption) (by rfl) (by rfl) (kset) ?_
      repeat (first | refine ev_go rfl (by rfl) ?_ | refine ev_gf rfl (by assumption) (by rfl) (by rfl) ?_)
      refine ev_cv (as := [.int (nI m)]) rfl rfl rfl (by assumption) (by rfl) (by rfl) (k2) ?_
      exact ev_cvP (as := [.int (nI 0)]) rfl rfl rfl (by assumption) (by rfl) (by rfl) k3
    · refine ⟨e_LT_seek, rfl, Nat.le_of_ble_eq_true rfl, ?_⟩
      repeat (first | refine ev_go rfl (by rfl) ?_ | refine ev_gf rfl (by assumption) (by rfl) (by rfl) ?_)
      refine ev_icF rfl (decide_eq_false hok.1) ?_
      repeat (first | refine ev_go rfl (by rfl) ?_ | refine ev_gf rfl (by assumption) (by rfl) (by rfl) ?_)
      refine ev_icF rfl (decide_eq_false hok.2) ?_
      repeat (first | refine ev_go rfl (by rfl) ?_ | refine ev_gf rfl (by assumption) (by rfl) (by rfl) ?_)
      refine ev_cv (as := []) rfl rfl rfl (by assumption) (by rfl) (by rfl) (kh) ?_
      repeat (first | refine ev_go rfl (by rfl) ?_ | refine ev_gf rfl (by assumption) (by rfl) (by rfl) ?_)
      refine ev_icT rfl (by exact b_le (a := L) (b := 40) (by omega) (by omega) (by omega)) ?_
      repeat (first | refine ev_go rfl (by rfl) ?_ | refine ev_gf rfl (by assumption) (by rfl) (by rfl) ?_)
      refine ev_cv (as := [.int x]) rfl rfl rfl (by assumption) (by rfl) (by rfl) (k1) ?_
      repeat (first | refine ev_go rfl (by rfl) ?_ | refine ev_gf rfl (by assumption) (by rfl) (by rfl) ?_)
      refine ev_cv (as := [.int (nI (1023 * 1))]) rfl rfl rfl (by assumption) (by rfl) (by rfl) (kset) ?_
      repeat (first | refine ev_go rfl (by rfl) ?_ | refine ev_gf rfl (by assumption) (by rfl) (by rfl) ?_)
      refine ev_cv (as := [.int (nI m)]) rfl rfl rfl (by assumption) (by rfl) (by rfl) (k2) ?_
      exact ev_cvP (as := [.int (nI 0)]) rfl rfl rfl (by assumption) (by rfl) (by rfl) k3
  · subst q
    obtain ⟨m3, f3, k3, s3, sy3, ve3, x3⟩ := sy_show (d + 9) sy2 q4
    refine Or.inl ⟨m3, y, f3, ?_, sy3, ⟨(x3 5 (by omega) (by omega)).trans ta2.1, (x3 6 (by omega) (by omega)).trans ta2.2⟩, ve3, sw_tr s3 q5, q1, q2, q3, Oz_trans oz1 (Oz_trans ozk (Oz_trans oz2 (fun c hc => x3 c (by omega) (by omega))))⟩
    have epl : v_pl ff = v_pl (G y) := by
      unfold v_pl
      rw [q5 5 (by omega)]
    rw [epl] at k3
    rcases hz01 with rfl | rfl
    · refine ⟨e_LT_seek, rfl, Nat.le_of_ble_eq_true rfl, ?_⟩
      repeat (first | refine ev_go rfl (by rfl) ?_ | refine ev_gf rfl (by assumption) (by rfl) (by rfl) ?_)
      refine ev_icF rfl (decide_eq_false hok.1) ?_
      repeat (first | refine ev_go rfl (by rfl) ?_ | refine ev_gf rfl (by assumption) (by rfl) (by rfl) ?_)
      refine ev_icF rfl (decide_eq_false hok.2) ?_
      repeat (first | refine ev_go rfl (by rfl) ?_ | refine ev_gf rfl (by assumption) (by rfl) (by rfl) ?_)
      refine ev_cv (as := []) rfl rfl rfl (by assumption) (by rfl) (by rfl) (kh) ?_
      repeat (first | refine ev_go rfl (by rfl) ?_ | refine ev_gf rfl (by assumption) (by rfl) (by rfl) ?_)
      refine ev_icT rfl (by exact b_le (a := L) (b := 40) (by omega) (by omega) (by omega)) ?_
      repeat (first | refine ev_go rfl (by rfl) ?_ | refine ev_gf rfl (by assumption) (by rfl) (by rfl) ?_)
      refine ev_cv (as := [.int x]) rfl rfl rfl (by assumption) (by rfl) (by rfl) (k1) ?_
      repeat (first | refine ev_go rfl (by rfl) ?_ | refine ev_gf rfl (by assumption) (by rfl) (by rfl) ?_)
      refine ev_cv (as := [.int (nI (1023 * 0))]) rfl rfl rfl (by assumption) (by rfl) (by rfl) (kset) ?_
      repeat (first | refine ev_go rfl (by rfl) ?_ | refine ev_gf rfl (by assumption) (by rfl) (by rfl) ?_)
      refine ev_cv (as := [.int (nI m)]) rfl rfl rfl (by assumption) (by rfl) (by rfl) (k2) ?_
      refine ev_cv (as := [.int (nI 1)]) rfl rfl rfl (by assumption) (by rfl) (by rfl) (k3) ?_
      exact j_ev.ret rfl
    · refine ⟨e_LT_seek, rfl, Nat.le_of_ble_eq_true rfl, ?_⟩
      repeat (first | refine ev_go rfl (by rfl) ?_ | refine ev_gf rfl (by assumption) (by rfl) (by rfl) ?_)
      refine ev_icF rfl (decide_eq_false hok.1) ?_
      repeat (first | refine ev_go rfl (by rfl) ?_ | refine ev_gf rfl (by assumption) (by rfl) (by rfl) ?_)
      refine ev_icF rfl (decide_eq_false hok.2) ?_
      repeat (first | refine ev_go rfl (by rfl) ?_ | refine ev_gf rfl (by assumption) (by rfl) (by rfl) ?_)
      refine ev_cv (as := []) rfl rfl rfl (by assumption) (by rfl) (by rfl) (kh) ?_
      repeat (first | refine ev_go rfl (by rfl) ?_ | refine ev_gf rfl (by assumption) (by rfl) (by rfl) ?_)
      refine ev_icT rfl (by exact b_le (a := L) (b := 40) (by omega) (by omega) (by omega)) ?_
      repeat (first | refine ev_go rfl (by rfl) ?_ | refine ev_gf rfl (by assumption) (by rfl) (by rfl) ?_)
      refine ev_cv (as := [.int x]) rfl rfl rfl (by assumption) (by rfl) (by rfl) (k1) ?_
      repeat (first | refine ev_go rfl (by rfl) ?_ | refine ev_gf rfl (by assumption) (by rfl) (by rfl) ?_)
      refine ev_cv (as := [.int (nI (1023 * 1))]) rfl rfl rfl (by assumption) (by rfl) (by rfl) (kset) ?_
      repeat (first | refine ev_go rfl (by rfl) ?_ | refine ev_gf rfl (by assumption) (by rfl) (by rfl) ?_)
      refine ev_cv (as := [.int (nI m)]) rfl rfl rfl (by assumption) (by rfl) (by rfl) (k2) ?_
      refine ev_cv (as := [.int (nI 1)]) rfl rfl rfl (by assumption) (by rfl) (by rfl) (k3) ?_
      exact j_ev.ret rfl
end SEEK
