/-! LEVELTABLES: find, seek (own text) -/
section FIND
variable {mem mem' : j_M} {G : Nat → Nat → Int64} {P : Nat} {s s' : Nat → Option Nat} {sh sh' lv lv' : Int32} {mm : List Nat} {LV : Nat → List TG} {J Q L m : Nat} {b : Nat → Int32}
theorem Sy_ag (h : Sy mem G P s sh lv mm LV J Q) (h1 : mem'.1 = mem.1) (h2 : mem'.2.1 = mem.2.1) (hf : ∀ c, c ≠ 4 → c ≠ 5 → c ≠ 6 → c ≠ 8 → c ≠ 21 → c ≠ 31 → c < 69 ∨ 78 ≤ c → mem'.2.2 c = mem.2.2 c) (hL : LT mem' sh' lv') (hVw : Vw mem' P s') (hV : Vs mem') : Sy mem' G P s' sh' lv' mm LV J Q := by
  obtain ⟨R, E, C, B, Wn, T, U, D, e, cap, ⟨a1, a2, ⟨Hr, r1, r2⟩, ⟨Hl, l1, l2⟩, a5, a6⟩, g2, ⟨⟨p1, p2, bf, p3, p4⟩, ⟨xs, md, Ef, q1, q2, q3, q4⟩, h5⟩, h6, h7, h12, h13, h14⟩ := h
  have f : ∀ c, c ≠ 4 ∧ c ≠ 5 ∧ c ≠ 6 ∧ c ≠ 8 ∧ c ≠ 21 ∧ c ≠ 31 ∧ (c < 69 ∨ 78 ≤ c) → mem'.2.2 c = mem.2.2 c := fun c q => hf c q.1 q.2.1 q.2.2.1 q.2.2.2.1 q.2.2.2.2.1 q.2.2.2.2.2.1 q.2.2.2.2.2.2
  have e2 : e = 2 ∨ 78 ≤ e := by
    by_cases c : cap = 0
    · exact Or.inl (h5.1 c)
    · exact Or.inr (h5.2 c).1
  have hM : Mw mem' mm.length R := ⟨(f 14 (by omega)).trans g2.1.1, trivial, (f 17 (by omega)).trans g2.1.2.2⟩
  refine ⟨R, E, C, B, Wn, T, U, D, e, cap, ⟨hL, hVw, ⟨Hr, (f 19 (by omega)).trans r1, r2⟩, ⟨Hl, (f 18 (by omega)).trans l1, l2⟩, hV, Wz_fr a6 (fun c c1 c2 => f c (by omega)) (f 19 (by omega))⟩, Bs_mm g2 h1 (fun c c1 c2 c3 c4 => f c (by unfold rcell at c4; omega)) hM g2.2.1 g2.2.2.1 (fun _ _ _ _ _ _ => rfl), ⟨⟨(f 66 (by omega)).trans p1, p2, bf, (f 68 (by omega)).trans p3, p4⟩, ⟨xs, md, Ef, (f 67 (by omega)).trans q1, (f e (by omega)).trans q2, q3, q4⟩, ⟨h5.1, by rw [h1]; exact h5.2⟩⟩, h6, h7, by rw [h1]; exact h12, h13, ?_⟩
  unfold Rm at h14 ⊢
  rw [h1, h2]
  exact h14
theorem thr_c {c : Nat} (hc : c ≠ mem.1) : (thr mem).2.2 c = mem.2.2 c := va_up_ne _ _ hc
theorem Sy_thr (h : Sy mem G P s sh lv mm LV J Q) : Sy (thr mem) G P s sh lv mm LV J (Q + 1) := by
  obtain ⟨R, E, C, B, Wn, T, U, D, e, cap, ⟨a1, a2, ⟨Hr, r1, r2⟩, ⟨Hl, l1, l2⟩, a5, a6⟩, g2, ⟨⟨p1, p2, bf, p3, p4⟩, ⟨xs, md, Ef, q1, q2, q3, q4⟩, h5⟩, h6, h7, h12, h13, h14⟩ := h
  have f : ∀ c, c < mem.1 → (thr mem).2.2 c = mem.2.2 c := fun c hc => thr_c (by omega)
  have t1 : (thr mem).1 = mem.1 + 1 := rfl
  have t2 : (thr mem).2.1 = mem.2.1 + 6 := rfl
  have e2 : e < mem.1 := by
    by_cases c : cap = 0
    · have := h5.1 c
      omega
    · exact (h5.2 c).2
  obtain ⟨b1, b2, b3, b4, b5, b6, b7⟩ := g2
  refine ⟨R, E, C, B, Wn, T, U, D, e, cap, ⟨(f 4 (by omega)).trans a1, ⟨(f 7 (by omega)).trans a2.1, (f 8 (by omega)).trans a2.2⟩, ⟨Hr, (f 19 (by omega)).trans r1, r2⟩, ⟨Hl, (f 18 (by omega)).trans l1, l2⟩, Vs_fr a5 (fun c c1 c2 => f c (by omega)), Wz_fr a6 (fun c c1 c2 => f c (by omega)) (f 19 (by omega))⟩, ⟨⟨(f 14 (by omega)).trans b1.1, trivial, (f 17 (by omega)).trans b1.2.2⟩, b2, b3, fun k hk => ?_, ⟨(f 9 (by omega)).trans b5.1, (f 10 (by omega)).trans b5.2.1, (f 11 (by omega)).trans b5.2.2.1, (f 12 (by omega)).trans b5.2.2.2.1, (f 13 (by omega)).trans b5.2.2.2.2⟩, Rw_fr b6 (by omega) (fun c c1 c2 => f c c2), b7⟩, ⟨⟨(f 66 (by omega)).trans p1, p2, bf, (f 68 (by omega)).trans p3, p4⟩, ⟨xs, md, Ef, (f 67 (by omega)).trans q1, (f e e2).trans q2, q3, q4⟩, ⟨h5.1, fun c => by have := h5.2 c; omega⟩⟩, h6, h7, by omega, h13, ?_⟩
  · obtain ⟨l1, l2, l3, l4⟩ := b4 k hk
    exact ⟨Lw_fr l1 l2 (f _ (by omega)) (f _ (by omega)) (f _ (by omega)) (fun c c1 c2 => f c c2), Lr_le l2 (by omega), l3, l4⟩
  · unfold Rm at h14 ⊢
    rw [t1, t2]
    omega
theorem Oy_thr (h : 78 ≤ mem.1) : Oy mem (thr mem) := fun c hc => thr_c (by omega)
theorem Sy_78 (h : Sy mem G P s sh lv mm LV J Q) : 78 ≤ mem.1 := by
  obtain ⟨R, E, C, B, Wn, T, U, D, e, cap, -, -, -, -, -, h12, -⟩ := h
  exact h12
/-- what finds and seeks leave: not the tape, not what is shown -/
def Oz (mem mem' : j_M) : Prop := ∀ c, c < 4 ∨ c = 6 ∨ (69 ≤ c ∧ c < 78) → mem'.2.2 c = mem.2.2 c
theorem Oz_trans {m1 m2 m3 : j_M} (h : Oz m1 m2) (h' : Oz m2 m3) : Oz m1 m3 := fun c hc => (h' c hc).trans (h c hc)
/-- the tape goes to the key -/
theorem sy_mvd {f' : Nat → Int64} (h : Sy mem G P s sh lv mm LV J Q) (hT : Ta mem L b) : Sy (mvd mem f') G P s sh lv mm LV J Q ∧ Ta (mvd mem f') 0 b ∧ Ve (mvd mem f') 20 21 f' ∧ Oz mem (mvd mem f') := by
  obtain ⟨R, E, C, B, Wn, T, U, D, hb, hsb⟩ := Sy_bs h
  obtain ⟨fk, hfk⟩ := hsb.2.2.2.2.1 20 (by unfold vcell; omega)
  have x1 : ∀ c, c ≠ 21 → c ≠ 5 → (mvd mem f').2.2 c = mem.2.2 c := fun c c1 c2 => by unfold mvd; rw [st_ne _ _ c2, st_ne _ _ c1]
  have hV : Vs (mvd mem f') := by
    unfold mvd
    exact Vs_fr (Vs_set (v := 20) hsb.2.2.2.2.1 (by unfold vcell; omega) f') (fun c c1 c2 => st_ne _ _ (by omega))
  refine ⟨Sy_ag h rfl rfl (fun c c1 c2 c3 c4 c5 c6 c7 => x1 c c5 c2) ((x1 4 (by omega) (by omega)).trans hsb.1) ⟨(x1 7 (by omega) (by omega)).trans hsb.2.1.1, (x1 8 (by omega) (by omega)).trans hsb.2.1.2⟩ hV, ⟨st_same _ _ _, (x1 6 (by omega) (by omega)).trans hT.2⟩, ⟨(x1 20 (by omega) (by omega)).trans hfk.1, ?_⟩, fun c hc => x1 c (by omega) (by omega)⟩
  unfold mvd
  rw [st_ne _ _ (by omega)]
  exact st_same _ _ _
/-- found is shown, or nothing is -/
theorem sy_show (d : Nat) {ff : Nat → Int64} (h : Sy mem G P s sh lv mm LV J Q) (hf : Ve mem 24 25 ff) : ∃ mem' f', j_ex tb (d + 2) m_LT_show [.ref 4, .int 1] mem (.inl (some (.int (nI (v_pl ff))))) mem' ∧ sw f' ff ∧ Sy mem' G P s 1 lv mm LV J Q ∧ Ve mem' 30 31 f' ∧ ∀ c, c ≠ 4 → c ≠ 31 → mem'.2.2 c = mem.2.2 c := by
  obtain ⟨R, E, C, B, Wn, T, U, D, hb, hsb⟩ := Sy_bs h
  obtain ⟨fs, hfs⟩ := hsb.2.2.2.2.1 30 (by unfold vcell; omega)
  obtain ⟨f', q1, q2⟩ := x_LT_show d hsb.1 hf hfs
  generalize hm : j_set (j_set mem 4 (ltC 1 lv)) 31 (vW f') = m' at q2
  have x1 : ∀ c, c ≠ 4 → c ≠ 31 → m'.2.2 c = mem.2.2 c := fun c c1 c2 => by rw [← hm, st_ne _ _ c2, st_ne _ _ c1]
  have hV : Vs m' := by
    rw [← hm]
    exact Vs_set (v := 30) (Vs_fr hsb.2.2.2.2.1 (fun c c1 c2 => st_ne _ _ (by omega))) (by unfold vcell; omega) f'
  have hL : LT m' 1 lv := by
    rw [← hm]
    show (j_set (j_set mem 4 (ltC 1 lv)) 31 (vW f')).2.2 4 = _
    rw [st_ne _ _ (by omega)]
    exact st_same _ _ _
  refine ⟨m', f', q2, q1, Sy_ag h (by rw [← hm]; rfl) (by rw [← hm]; rfl) (fun c c1 c2 c3 c4 c5 c6 c7 => x1 c c1 c6) hL ⟨(x1 7 (by omega) (by omega)).trans hsb.2.1.1, (x1 8 (by omega) (by omega)).trans hsb.2.1.2⟩ hV, ⟨(x1 30 (by omega) (by omega)).trans hfs.1, by rw [← hm]; exact st_same _ _ _⟩, x1⟩
theorem sy_showN (d : Nat) (hd : 6 ≤ d) (h : Sy mem G P s sh lv mm LV J Q) : ∃ mem', j_ex tb (d + 2) m_LT_show [.ref 4, .int 0] mem (.inr (3, mem.1)) mem' ∧ Sy mem' G P s 0 lv mm LV J (Q + 1) ∧ ∀ c, c < 78 → c ≠ 4 → mem'.2.2 c = mem.2.2 c := by
  obtain ⟨R, E, C, B, Wn, T, U, D, hb, hsb⟩ := Sy_bs h
  have k := x_LT_showN d hd hsb.1
  have x1 : ∀ c, c ≠ 4 → (j_set mem 4 (ltC 0 lv)).2.2 c = mem.2.2 c := fun c c1 => st_ne _ _ c1
  have hs : Sy (j_set mem 4 (ltC 0 lv)) G P s 0 lv mm LV J Q := Sy_ag h rfl rfl (fun c c1 c2 c3 c4 c5 c6 c7 => x1 c c1) (st_same _ _ _) ⟨(x1 7 (by omega)).trans hsb.2.1.1, (x1 8 (by omega)).trans hsb.2.1.2⟩ (Vs_fr hsb.2.2.2.2.1 (fun c c1 c2 => x1 c (by omega)))
  have h78 := Sy_78 h
  refine ⟨_, k, Sy_thr hs, fun c c1 c2 => ?_⟩
  rw [thr_c (by show c ≠ mem.1; omega)]
  exact x1 c c2
theorem Sy_hf (h : Sy mem G P s sh lv mm LV J Q) (hf : Hf mem mem') (hV : Vs mem') : Sy mem' G P s sh lv mm LV J Q := by
  obtain ⟨R, E, C, B, Wn, T, U, D, hb, hsb⟩ := Sy_bs h
  exact Sy_sf h (Sf_hf hf) hV (Wz_fr hsb.2.2.2.2.2 (fun c c1 c2 => hf.2.2 c (by omega) (by omega) (by omega) (by omega) (by omega) (by omega) (by omega)) (hf.2.2 19 (by omega) (by omega) (by omega) (by omega) (by omega) (by omega) (by omega)))
/-- a view that sees m -/
def Sees (P : Nat) (s : Nat → Option Nat) (x : Int32) (m : Nat) : Prop := (x = -1 ∧ m = P) ∨ ∃ i, x = nI i ∧ i < 8 ∧ s i = some m
theorem v_rng : ∀ i, i < 8 → ¬ nI i < (-1 : Int32) ∧ ¬ (8 : Int32) ≤ nI i := by decide +kernel
theorem Sees_ok {x : Int32} (h : Sees P s x m) : ¬ x < (-1 : Int32) ∧ ¬ (8 : Int32) ≤ x := by
  rcases h with ⟨rfl, -⟩ | ⟨i, rfl, h1, -⟩
  · decide
  · exact v_rng i h1
theorem x_LT_find (d : Nat) {x : Int32} (h : Sy mem G P s sh lv mm LV J Q) (hp : Pu G P mm LV) (hT : Ta mem L b) (hL : 1 ≤ L ∧ L ≤ 40) (hx : Sees P s x m) (hm : m < 1000) :
    (∃ mem' y f', j_ex tb (d + 11) m_LT_find [.ref 4, .int x] mem (.inl (some (.int (nI (v_pl (G y)))))) mem' ∧ Sy mem' G P s 1 lv mm LV J Q ∧ Ta mem' 0 b ∧ Ve mem' 30 31 f' ∧ sw f' (G y) ∧ sst (gK G) (gT G) (mem5 (rms mm LV)) m y ∧ gK G y = ky b L ∧ Oz mem mem') ∨
    (∃ mem' a, j_ex tb (d + 11) m_LT_find [.ref 4, .int x] mem (.inr (3, a)) mem' ∧ Sy mem' G P s 0 lv mm LV J (Q + 1) ∧ Ta mem' 0 b ∧ (¬ ∃ y, sst (gK G) (gT G) (mem5 (rms mm LV)) m y ∧ gK G y = ky b L) ∧ Oz mem mem') := by
  obtain ⟨R, E, C, B, Wn, T, U, D, hb, hsb⟩ := Sy_bs h
  obtain ⟨fk, hfk⟩ := hsb.2.2.2.2.1 20 (by unfold vcell; omega)
  obtain ⟨f', ks, k1⟩ := x_LT_read (d + 6) hsb.1 hT hL.2 hsb.2.1 hfk (by omega) hx
  obtain ⟨sy1, ta1, ve1, oz1⟩ := sy_mvd (f' := f') h hT
  generalize hm1 : mvd mem f' = m1 at *
  obtain ⟨m2, bb, k2, hf2, hV2, hbb⟩ := gh_find (d + 1) (m := m) hp sy1 (Or.inl rfl) ve1 hm
  have sy2 := Sy_hf sy1 hf2 hV2
  rw [kS_key (by omega) ks] at hbb
  have f2 : ∀ c, c < 16 ∨ c = 20 ∨ (47 ≤ c) → m2.2.2 c = m1.2.2 c := fun c hc => hf2.2.2 c (by omega) (by omega) (by omega) (by omega) (by omega) (by omega) (by omega)
  have ta2 : Ta m2 0 b := ⟨(f2 5 (by omega)).trans ta1.1, (f2 6 (by omega)).trans ta1.2⟩
  have oz2 : Oz m1 m2 := fun c hc => f2 c (by omega)
  have l0 := Sy_lt h
  have l1 := Sy_lt sy1
  have l2 := Sy_lt sy2
  have t5 := hT.1
  have kh := x_Tp_hasKey (d + 9) hT (by omega)
  rw [if_pos hL] at kh
  have hok := Sees_ok hx
  rcases hbb with ⟨q, y, ff, q1, q2, q3, q4⟩ | ⟨q, q1⟩
  · subst q
    obtain ⟨m3, f3, k3, s3, sy3, ve3, x3⟩ := sy_show (d + 8) sy2 q3
    refine Or.inl ⟨m3, y, f3, ?_, sy3, ⟨(x3 5 (by omega) (by omega)).trans ta2.1, (x3 6 (by omega) (by omega)).trans ta2.2⟩, ve3, sw_tr s3 q4, q1, q2, Oz_trans oz1 (Oz_trans oz2 (fun c hc => x3 c (by omega) (by omega)))⟩
    have epl : v_pl ff = v_pl (G y) := by
      unfold v_pl
      rw [q4 5 (by omega)]
    rw [epl] at k3
    refine ⟨e_LT_find, rfl, Nat.le_of_ble_eq_true rfl, ?_⟩
    repeat (first | refine ev_go rfl (by rfl) ?_ | refine ev_gf rfl (by assumption) (by rfl) (by rfl) ?_)
    refine ev_icF rfl (decide_eq_false hok.1) ?_
    repeat (first | refine ev_go rfl (by rfl) ?_ | refine ev_gf rfl (by assumption) (by rfl) (by rfl) ?_)
    refine ev_icF rfl (decide_eq_false hok.2) ?_
    repeat (first | refine ev_go rfl (by rfl) ?_ | refine ev_gf rfl (by assumption) (by rfl) (by rfl) ?_)
    refine ev_cv (as := []) rfl rfl rfl (by assumption) (by rfl) (by rfl) (kh) ?_
    repeat (first | refine ev_go rfl (by rfl) ?_ | refine ev_gf rfl (by assumption) (by rfl) (by rfl) ?_)
    refine ev_cv (as := [.int x]) rfl rfl rfl (by assumption) (by rfl) (by rfl) (k1) ?_
    repeat (first | refine ev_go rfl (by rfl) ?_ | refine ev_gf rfl (by assumption) (by rfl) (by rfl) ?_)
    refine ev_cv (as := [.ref 20, .int (nI m), .int (nI 0)]) rfl rfl rfl (by assumption) (by rfl) (by rfl) (k2) ?_
    refine ev_cv (as := [.int (nI 1)]) rfl rfl rfl (by assumption) (by rfl) (by rfl) (k3) ?_
    exact j_ev.ret rfl
  · subst q
    obtain ⟨m3, k3, sy3, x3⟩ := sy_showN (d + 8) (by omega) sy2
    refine Or.inr ⟨m3, m2.1, ?_, sy3, ⟨(x3 5 (by omega) (by omega)).trans ta2.1, (x3 6 (by omega) (by omega)).trans ta2.2⟩, q1, Oz_trans oz1 (Oz_trans oz2 (fun c hc => x3 c (by omega) (by omega)))⟩
    refine ⟨e_LT_find, rfl, Nat.le_of_ble_eq_true rfl, ?_⟩
    repeat (first | refine ev_go rfl (by rfl) ?_ | refine ev_gf rfl (by assumption) (by rfl) (by rfl) ?_)
    refine ev_icF rfl (decide_eq_false hok.1) ?_
    repeat (first | refine ev_go rfl (by rfl) ?_ | refine ev_gf rfl (by assumption) (by rfl) (by rfl) ?_)
    refine ev_icF rfl (decide_eq_false hok.2) ?_
    repeat (first | refine ev_go rfl (by rfl) ?_ | refine ev_gf rfl (by assumption) (by rfl) (by rfl) ?_)
    refine ev_cv (as := []) rfl rfl rfl (by assumption) (by rfl) (by rfl) (kh) ?_
    repeat (first | refine ev_go rfl (by rfl) ?_ | refine ev_gf rfl (by assumption) (by rfl) (by rfl) ?_)
    refine ev_cv (as := [.int x]) rfl rfl rfl (by assumption) (by rfl) (by rfl) (k1) ?_
    repeat (first | refine ev_go rfl (by rfl) ?_ | refine ev_gf rfl (by assumption) (by rfl) (by rfl) ?_)
    refine ev_cv (as := [.ref 20, .int (nI m), .int (nI 0)]) rfl rfl rfl (by assumption) (by rfl) (by rfl) (k2) ?_
    exact ev_cvP (as := [.int (nI 0)]) rfl rfl rfl (by assumption) (by rfl) (by rfl) k3
end FIND
