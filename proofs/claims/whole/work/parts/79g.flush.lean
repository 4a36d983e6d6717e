/-! LEVELTABLES: flush, merge (own text) -/
def Alw (mem : j_M) : Prop := mem.2.2 1 = some (.inl (0, 3, .inl (fun j => ([4, 8, 16] : List Int32).getD j 0)))
def alw (q : Nat) : Nat := if q = 0 then 4 else if q = 1 then 8 else 16
theorem Same_refl (G : Nat → Nat → Int64) (P : Nat) (s : Nat → Option Nat) (ms : Nat → List Nat) : Same G P s ms ms := fun _ _ _ => Iff.rfl
theorem Same_trans {G : Nat → Nat → Int64} {P : Nat} {s : Nat → Option Nat} {m1 m2 m3 : Nat → List Nat} (h : Same G P s m1 m2) (h' : Same G P s m2 m3) : Same G P s m1 m3 := fun m hm t => (h' m hm t).trans (h m hm t)
theorem w_over : ∀ n, n < 17 → ∀ b, b < 17 → n ≤ b → decide (nI n - nI b ≤ 0) = true := by decide +kernel
section FLUSH
variable {mem : j_M} {G : Nat → Nat → Int64} {P : Nat} {s : Nat → Option Nat} {sh lv : Int32} {mm : List Nat} {LV : Nat → List TG} {J Q : Nat}
theorem Sy_bs {mem : j_M} {LV : Nat → List TG} (h : Sy mem G P s sh lv mm LV J Q) : ∃ R E C B Wn T U D, Bs mem G mm R E C LV B Wn T U D ∧ Sb mem P s sh lv := by
  obtain ⟨R, E, C, B, Wn, T, U, D, e, cap, h1, h2, -⟩ := h
  exact ⟨R, E, C, B, Wn, T, U, D, h2, h1⟩
theorem Sy_lt {mem : j_M} {LV : Nat → List TG} (h : Sy mem G P s sh lv mm LV J Q) : mem.2.2 4 = some (.inr (0, [.int sh, .int lv, .ref 5, .ref 7, .ref 9, .ref 14, .ref 18, .ref 19, .ref 48, .ref 66, .ref 20, .ref 22, .ref 24, .ref 26, .ref 28, .ref 30])) := by
  obtain ⟨R, E, C, B, Wn, T, U, D, e, cap, h1, -⟩ := h
  exact h1.1
theorem Sy_lv {mem : j_M} {LV : Nat → List TG} (h : Sy mem G P s sh lv mm LV J Q) {k : Nat} (hk : k < 4) : ∃ fs, mem.2.2 (32 + 4 * k) = some (.inr (5, fs)) := by
  obtain ⟨R, E, C, B, Wn, T, U, D, e, cap, -, h2, -⟩ := h
  exact ⟨_, (h2.2.2.2.1 k hk).1.1⟩
theorem Sy_tc (d : Nat) {mem : j_M} {LV : Nat → List TG} (h : Sy mem G P s sh lv mm LV J Q) {k : Nat} (hk : k < 4) : j_ex tb (d + 2) m_Lv_tableCount [.ref (32 + 4 * k)] mem (.inl (some (.int (nI (LV k).length)))) mem := by
  obtain ⟨R, E, C, B, Wn, T, U, D, hb, hs⟩ := Sy_bs h
  obtain ⟨fm, hLv⟩ := Lv_of hb hs.2.2.2.2.1 hk
  have k1 := x_Lv_tableCount d hLv
  rwa [lfs_len] at k1
theorem Sy_len {mem : j_M} {LV : Nat → List TG} (hp : Pu G P mm LV) (hP : P ≤ 256) {k : Nat} (hk : k < 4) : (LV k).length ≤ 256 := by
  have htot := Pu_tot hp
  have h1 := fl_len _ (hp.2.2.2 k hk).2
  rw [lms_len] at h1
  have : k = 0 ∨ k = 1 ∨ k = 2 ∨ k = 3 := by omega
  rcases this with rfl | rfl | rfl | rfl <;> omega
theorem flush_in (d : Nat) {q : Nat} (hq : q < 3) (hP : P ≤ 256) (hs : ∀ i m, s i = some m → m ≤ 500) : ∀ (w : Nat) (mem : j_M) (LV : Nat → List TG) (J : Nat), Sy mem G P s sh lv mm LV J Q → Pu G P mm LV → w ≤ (LV q).length →
    ∃ mem' LV' J', (∀ o mo, (∀ z : Int32, j_ev (d + 12) (j_ex tb (d + 11)) (j_tab q_LT_flush) [] (o) (mo) 52 [some (.ref 4), some (.int (nI q)), some (.int z)] [] mem') → j_ev (d + 12) (j_ex tb (d + 11)) (j_tab q_LT_flush) [] (o) (mo) 37 [some (.ref 4), some (.int (nI q)), some (.int (nI w))] [] mem) ∧ Sy mem' G P s sh lv mm LV' J' Q ∧ Pu G P mm LV' ∧ Same G P s (rms mm LV) (rms mm LV') ∧ Ox mem mem' ∧ J' + phi mm LV' ≤ J + phi mm LV := by
  intro w
  induction w with
  | zero =>
    intro mem LV J h hp hw
    refine ⟨mem, LV, J, fun o mo kk => ?_, h, hp, Same_refl _ _ _ _, Ox_refl _, Nat.le_refl _⟩
    have kz := kk (nI 0)
    repeat (first | exact kz | refine ev_go rfl (by rfl) ?_ | refine ev_gf rfl (by assumption) (by rfl) (by rfl) ?_)
  | succ w ih =>
    intro mem LV J h hp hw
    obtain ⟨m1, L1, r1, r2, r3, r4, r5, r6, r7⟩ := x_LT_push d h hp hP hs hq (fun e => by rw [e] at hw; simp at hw)
    obtain ⟨m2, L2, J2, z1, z2, z3, z4, z5, z6⟩ := ih m1 L1 (J + 1) r2 r3 (by omega)
    have hl := Sy_len (mem := mem) hp hP (show q < 4 by omega)
    refine ⟨m2, L2, J2, fun o mo kk => ?_, z2, z3, Same_trans r4 z4, Ox_trans r5 z5, by omega⟩
    have zz := z1 o mo kk
    have l4 := Sy_lt h
    rw [show nI w = nI (w + 1) + (-1) by rw [w_m1]; exact (nI_pred w).symm] at zz
    repeat (first | refine ev_go rfl (by rfl) ?_ | refine ev_gf rfl (by assumption) (by rfl) (by rfl) ?_)
    refine ev_ifF rfl (by exact b_nle (a := w + 1) (b := 0) (by omega) (by omega) (by omega)) ?_
    repeat (first | refine ev_go rfl (by rfl) ?_ | refine ev_gf rfl (by assumption) (by rfl) (by rfl) ?_)
    refine ev_cv (as := [.int (nI q)]) rfl rfl rfl (by assumption) (by rfl) (by rfl) (r1) ?_
    repeat (first | exact zz | refine ev_go rfl (by rfl) ?_ | refine ev_gf rfl (by assumption) (by rfl) (by rfl) ?_)
theorem flush_lv (d : Nat) {q : Nat} (hq : q < 3) (hP : P ≤ 256) (hs : ∀ i m, s i = some m → m ≤ 500) (h : Sy mem G P s sh lv mm LV J Q) (hp : Pu G P mm LV) (hA : Alw mem) :
    ∃ mem' LV' J', (∀ o mo (x2 : Option Value), (∀ z : Int32, j_ev (d + 12) (j_ex tb (d + 11)) (j_tab q_LT_flush) [] (o) (mo) 52 [some (.ref 4), some (.int (nI q)), some (.int z)] [] mem') → j_ev (d + 12) (j_ex tb (d + 11)) (j_tab q_LT_flush) [] (o) (mo) 21 [some (.ref 4), some (.int (nI q)), x2] [] mem) ∧ Sy mem' G P s sh lv mm LV' J' Q ∧ Pu G P mm LV' ∧ Same G P s (rms mm LV) (rms mm LV') ∧ Ox mem mem' ∧ J' + phi mm LV' ≤ J + phi mm LV := by
  have hl := Sy_len (mem := mem) hp hP (show q < 4 by omega)
  have l4 := Sy_lt h
  obtain ⟨f, o⟩ := Sy_lv h (show q < 4 by omega)
  have kc := Sy_tc (d + 9) h (show q < 4 by omega)
  obtain ⟨R, E, C, B, Wn, T, U, D, hb, -, -, -, ⟨Hl, v1, v2⟩, -⟩ := Sy_bs h
  have hA' : mem.2.2 1 = _ := hA
  have ea : (fun j => ([4, 8, 16] : List Int32).getD j 0) q = nI (alw q) := by
    have : q = 0 ∨ q = 1 ∨ q = 2 := by omega
    rcases this with rfl | rfl | rfl <;> rfl
  have ha16 : alw q ≤ 16 := by
    unfold alw
    split
    · omega
    · split <;> omega
  have pre : ∀ o mo (x2 : Option Value), j_ev (d + 12) (j_ex tb (d + 11)) (j_tab q_LT_flush) [] (o) (mo) 37 [some (.ref 4), some (.int (nI q)), some (.int (nI (LV q).length - nI (alw q)))] [] mem → j_ev (d + 12) (j_ex tb (d + 11)) (j_tab q_LT_flush) [] (o) (mo) 21 [some (.ref 4), some (.int (nI q)), x2] [] mem := by
    intro o mo x2 kk
    repeat (first | refine ev_go rfl (by rfl) ?_ | refine ev_gf rfl (by assumption) (by rfl) (by rfl) ?_)
    refine ev_alqN (i := q) rfl (by assumption) (by rfl) (by omega) (by omega) ?_
    rw [v2 q (by omega)]
    refine ev_cv (as := []) rfl rfl rfl (by assumption) (by rfl) (by rfl) (kc) ?_
    repeat (first | refine ev_go rfl (by rfl) ?_ | refine ev_gf rfl (by assumption) (by rfl) (by rfl) ?_)
    refine ev_aliN (i := q) rfl (by assumption) (by omega) (by omega) ?_
    refine ev_vi ea ?_
    repeat (first | exact kk | refine ev_go rfl (by rfl) ?_ | refine ev_gf rfl (by assumption) (by rfl) (by rfl) ?_)
  rcases Nat.lt_or_ge (alw q) (LV q).length with c | c
  · obtain ⟨m2, L2, J2, z1, z2⟩ := flush_in d hq hP hs ((LV q).length - alw q) mem LV J h hp (by omega)
    refine ⟨m2, L2, J2, fun o mo x2 kk => pre o mo x2 ?_, z2⟩
    rw [pk_sub (by omega)]
    exact z1 o mo kk
  · refine ⟨mem, LV, J, fun o mo x2 kk => pre o mo x2 ?_, h, hp, Same_refl _ _ _ _, Ox_refl _, Nat.le_refl _⟩
    have kz := kk (nI (LV q).length - nI (alw q))
    refine j_ev.go rfl ?_
    refine ev_ifT rfl (w_over _ (by omega) _ (by omega) c) ?_
    exact kz
theorem Alw_ox {mem mem' : j_M} (h : Alw mem) (ho : Ox mem mem') : Alw mem' := (ho 1 (by omega)).trans h
theorem flush_t (d : Nat) (hP : P ≤ 256) (hs : ∀ i m, s i = some m → m ≤ 500) (h : Sy mem G P s sh lv mm LV J Q) (hp : Pu G P mm LV) (hA : Alw mem) (x2 : Option Value) (x1 : Option Value) :
    ∃ mem' LV' J', j_ev (d + 12) (j_ex tb (d + 11)) (j_tab q_LT_flush) [] (.inl (some (.int lv))) (mem') 14 [some (.ref 4), x1, x2] [] mem ∧ Sy mem' G P s sh lv mm LV' J' Q ∧ Pu G P mm LV' ∧ Same G P s (rms mm LV) (rms mm LV') ∧ Ox mem mem' ∧ J' + phi mm LV' ≤ J + phi mm LV := by
  obtain ⟨m1, L1, J1, a1, a2, a3, a4, a5, a6⟩ := flush_lv d (q := 0) (by omega) hP hs h hp hA
  have hA1 := Alw_ox hA a5
  obtain ⟨m2, L2, J2, b1, b2, b3, b4, b5, b6⟩ := flush_lv d (q := 1) (by omega) hP hs a2 a3 hA1
  have hA2 := Alw_ox hA1 b5
  obtain ⟨m3, L3, J3, c1, c2, c3, c4, c5, c6⟩ := flush_lv d (q := 2) (by omega) hP hs b2 b3 hA2
  have l4 := Sy_lt c2
  refine ⟨m3, L3, J3, ?_, c2, c3, Same_trans a4 (Same_trans b4 c4), Ox_trans a5 (Ox_trans b5 c5), by omega⟩
  have e3 : ∀ z : Int32, j_ev (d + 12) (j_ex tb (d + 11)) (j_tab q_LT_flush) [] (.inl (some (.int lv))) (m3) 52 [some (.ref 4), some (.int (nI 2)), some (.int z)] [] m3 := fun z => by
    repeat (first | refine ev_go rfl (by rfl) ?_ | refine ev_gf rfl (by assumption) (by rfl) (by rfl) ?_)
    exact j_ev.ret rfl
  have e2 : ∀ z : Int32, j_ev (d + 12) (j_ex tb (d + 11)) (j_tab q_LT_flush) [] (.inl (some (.int lv))) (m3) 52 [some (.ref 4), some (.int (nI 1)), some (.int z)] [] m2 := fun z => by
    have k := c1 _ _ (some (.int z)) e3
    repeat (first | exact k | refine ev_go rfl (by rfl) ?_ | refine ev_gf rfl (by assumption) (by rfl) (by rfl) ?_)
  have e1 : ∀ z : Int32, j_ev (d + 12) (j_ex tb (d + 11)) (j_tab q_LT_flush) [] (.inl (some (.int lv))) (m3) 52 [some (.ref 4), some (.int (nI 0)), some (.int z)] [] m1 := fun z => by
    have k := b1 _ _ (some (.int z)) e2
    repeat (first | exact k | refine ev_go rfl (by rfl) ?_ | refine ev_gf rfl (by assumption) (by rfl) (by rfl) ?_)
  have k := a1 _ _ x2 e1
  repeat (first | exact k | refine ev_go rfl (by rfl) ?_ | refine ev_gf rfl (by assumption) (by rfl) (by rfl) ?_)
theorem x_LT_flush (d : Nat) (hP : P ≤ 256) (hs : ∀ i m, s i = some m → m ≤ 500) (h : Sy mem G P s sh lv mm LV J Q) (hp : Pu G P mm LV) (hA : Alw mem) :
    ∃ mem' mm' LV' J', j_ex tb (d + 12) m_LT_flush [.ref 4] mem (.inl (some (.int lv))) mem' ∧ Sy mem' G P s sh lv mm' LV' J' Q ∧ Pu G P mm' LV' ∧ Same G P s (rms mm LV) (rms mm' LV') ∧ Ox mem mem' ∧ J' + phi mm' LV' ≤ J + phi mm LV + 1 := by
  have l4 := Sy_lt h
  obtain ⟨R, E, C, B, Wn, T, U, D, hb, hsb⟩ := Sy_bs h
  obtain ⟨fm, hf⟩ := hsb.2.2.2.2.1 15 (by unfold vcell; omega)
  have kc := x_Me_count (d + 10) (mem := mem) (n := mm.length) (R := R) (fm := fm) ⟨hb.1.1, hf, hb.1.2.2⟩
  have o14 := hb.1.1
  have hn := hb.2.1
  by_cases c : mm = []
  · obtain ⟨m1, L1, J1, a1, a2, a3, a4, a5, a6⟩ := flush_t d hP hs h hp hA none none
    refine ⟨m1, mm, L1, J1, ?_, a2, a3, a4, a5, by omega⟩
    subst c
    refine ⟨e_LT_flush, rfl, Nat.le_of_ble_eq_true rfl, ?_⟩
    repeat (first | refine ev_go rfl (by rfl) ?_ | refine ev_gf rfl (by assumption) (by rfl) (by rfl) ?_)
    refine ev_cv (as := []) rfl rfl rfl (by assumption) (by rfl) (by rfl) (kc) ?_
    repeat (first | exact a1 | refine ev_go rfl (by rfl) ?_ | refine ev_gf rfl (by assumption) (by rfl) (by rfl) ?_)
  · obtain ⟨m0, L0, r1, r2, r3, r4, r5, r6⟩ := x_LT_wout d h hp hP hs c
    obtain ⟨m1, L1, J1, a1, a2, a3, a4, a5, a6⟩ := flush_t d hP hs r2 r3 (Alw_ox hA r5) none none
    have hm : 1 ≤ mm.length := List.length_pos_iff.mpr c
    refine ⟨m1, [], L1, J1, ?_, a2, a3, Same_trans r4 a4, Ox_trans r5 a5, by omega⟩
    refine ⟨e_LT_flush, rfl, Nat.le_of_ble_eq_true rfl, ?_⟩
    repeat (first | refine ev_go rfl (by rfl) ?_ | refine ev_gf rfl (by assumption) (by rfl) (by rfl) ?_)
    refine ev_cv (as := []) rfl rfl rfl (by assumption) (by rfl) (by rfl) (kc) ?_
    refine ev_ifF rfl (by exact b_nle (a := mm.length) (b := 0) (by omega) (by omega) (by omega)) ?_
    repeat (first | refine ev_go rfl (by rfl) ?_ | refine ev_gf rfl (by assumption) (by rfl) (by rfl) ?_)
    refine ev_cv (as := []) rfl rfl rfl (by assumption) (by rfl) (by rfl) (r1) ?_
    repeat (first | exact a1 | refine ev_go rfl (by rfl) ?_ | refine ev_gf rfl (by assumption) (by rfl) (by rfl) ?_)
theorem x_LT_merge1 (d : Nat) (hP : P ≤ 256) (hs : ∀ i m, s i = some m → m ≤ 500) (h : Sy mem G P s sh lv mm LV J Q) (hp : Pu G P mm LV) :
    ∃ mem' LV' J', j_ex tb (d + 12) m_LT_merge [.ref 4, .int 1] mem (.inl (some (.int lv))) mem' ∧ Sy mem' G P s sh lv mm LV' J' Q ∧ Pu G P mm LV' ∧ Same G P s (rms mm LV) (rms mm LV') ∧ Ox mem mem' ∧ J' + phi mm LV' ≤ J + phi mm LV + 1 := by
  obtain ⟨m1, L1, a1, a2, a3, a4, a5, a6⟩ := x_LT_all d h hp hP hs
  have l4 := Sy_lt h
  have l5 := Sy_lt a2
  refine ⟨m1, L1, J + 1, ?_, a2, a3, a4, a5, by omega⟩
  refine ⟨e_LT_merge, rfl, Nat.le_of_ble_eq_true rfl, ?_⟩
  repeat (first | refine ev_go rfl (by rfl) ?_ | refine ev_gf rfl (by assumption) (by rfl) (by rfl) ?_)
  refine ev_cv (as := []) rfl rfl rfl (by assumption) (by rfl) (by rfl) (a1) ?_
  repeat (first | refine ev_go rfl (by rfl) ?_ | refine ev_gf rfl (by assumption) (by rfl) (by rfl) ?_)
  exact j_ev.ret rfl
theorem merge_lv (d : Nat) {q : Nat} (hq : q < 3) (hP : P ≤ 256) (hs : ∀ i m, s i = some m → m ≤ 500) (h : Sy mem G P s sh lv mm LV J Q) (hp : Pu G P mm LV)
    (next : ∃ mem' LV' J', j_ev (d + 12) (j_ex tb (d + 11)) (j_tab q_LT_merge) [] (.inl (some (.int lv))) (mem') 42 [some (.ref 4), some (.int 0), some (.int (nI q))] [] mem ∧ Sy mem' G P s sh lv mm LV' J' Q ∧ Pu G P mm LV' ∧ Same G P s (rms mm LV) (rms mm LV') ∧ Ox mem mem' ∧ J' + phi mm LV' ≤ J + phi mm LV) :
    ∃ mem' LV' J', j_ev (d + 12) (j_ex tb (d + 11)) (j_tab q_LT_merge) [] (.inl (some (.int lv))) (mem') 20 [some (.ref 4), some (.int 0), some (.int (nI q))] [] mem ∧ Sy mem' G P s sh lv mm LV' J' Q ∧ Pu G P mm LV' ∧ Same G P s (rms mm LV) (rms mm LV') ∧ Ox mem mem' ∧ J' + phi mm LV' ≤ J + phi mm LV := by
  have hl := Sy_len (mem := mem) hp hP (show q < 4 by omega)
  have l4 := Sy_lt h
  obtain ⟨f, o⟩ := Sy_lv h (show q < 4 by omega)
  have kc := Sy_tc (d + 9) h (show q < 4 by omega)
  obtain ⟨R, E, C, B, Wn, T, U, D, hb, -, -, -, ⟨Hl, v1, v2⟩, -⟩ := Sy_bs h
  by_cases c : LV q = []
  · obtain ⟨m1, L1, J1, a1, a2⟩ := next
    refine ⟨m1, L1, J1, ?_, a2⟩
    rw [c] at kc
    repeat (first | refine ev_go rfl (by rfl) ?_ | refine ev_gf rfl (by assumption) (by rfl) (by rfl) ?_)
    refine ev_alqN (i := q) rfl (by assumption) (by rfl) (by omega) (by omega) ?_
    rw [v2 q (by omega)]
    refine ev_cv (as := []) rfl rfl rfl (by assumption) (by rfl) (by rfl) (kc) ?_
    repeat (first | exact a1 | refine ev_go rfl (by rfl) ?_ | refine ev_gf rfl (by assumption) (by rfl) (by rfl) ?_)
  · obtain ⟨m1, L1, r1, r2, r3, r4, r5, r6, r7⟩ := x_LT_push d h hp hP hs hq c
    have l5 := Sy_lt r2
    have hm : 1 ≤ (LV q).length := List.length_pos_iff.mpr c
    refine ⟨m1, L1, J + 1, ?_, r2, r3, r4, r5, by omega⟩
    repeat (first | refine ev_go rfl (by rfl) ?_ | refine ev_gf rfl (by assumption) (by rfl) (by rfl) ?_)
    refine ev_alqN (i := q) rfl (by assumption) (by rfl) (by omega) (by omega) ?_
    rw [v2 q (by omega)]
    refine ev_cv (as := []) rfl rfl rfl (by assumption) (by rfl) (by rfl) (kc) ?_
    refine ev_ifF rfl (by exact b_nle (a := (LV q).length) (b := 0) (by omega) (by omega) (by omega)) ?_
    repeat (first | refine ev_go rfl (by rfl) ?_ | refine ev_gf rfl (by assumption) (by rfl) (by rfl) ?_)
    refine ev_cv (as := [.int (nI q)]) rfl rfl rfl (by assumption) (by rfl) (by rfl) (r1) ?_
    repeat (first | refine ev_go rfl (by rfl) ?_ | refine ev_gf rfl (by assumption) (by rfl) (by rfl) ?_)
    exact j_ev.ret rfl
theorem x_LT_merge0 (d : Nat) (hP : P ≤ 256) (hs : ∀ i m, s i = some m → m ≤ 500) (h : Sy mem G P s sh lv mm LV J Q) (hp : Pu G P mm LV) :
    ∃ mem' LV' J', j_ex tb (d + 12) m_LT_merge [.ref 4, .int 0] mem (.inl (some (.int lv))) mem' ∧ Sy mem' G P s sh lv mm LV' J' Q ∧ Pu G P mm LV' ∧ Same G P s (rms mm LV) (rms mm LV') ∧ Ox mem mem' ∧ J' + phi mm LV' ≤ J + phi mm LV + 1 := by
  have l4 := Sy_lt h
  obtain ⟨m1, L1, J1, a1, a2, a3, a4, a5, a6⟩ := merge_lv d (q := 0) (by omega) hP hs h hp (by
    obtain ⟨m1, L1, J1, a1, a2⟩ := merge_lv d (q := 1) (by omega) hP hs h hp (by
      obtain ⟨m1, L1, J1, a1, a2⟩ := merge_lv d (q := 2) (by omega) hP hs h hp (by
        refine ⟨mem, LV, J, ?_, h, hp, Same_refl _ _ _ _, Ox_refl _, Nat.le_refl _⟩
        repeat (first | refine ev_go rfl (by rfl) ?_ | refine ev_gf rfl (by assumption) (by rfl) (by rfl) ?_)
        exact j_ev.ret rfl)
      refine ⟨m1, L1, J1, ?_, a2⟩
      repeat (first | exact a1 | refine ev_go rfl (by rfl) ?_ | refine ev_gf rfl (by assumption) (by rfl) (by rfl) ?_))
    refine ⟨m1, L1, J1, ?_, a2⟩
    repeat (first | exact a1 | refine ev_go rfl (by rfl) ?_ | refine ev_gf rfl (by assumption) (by rfl) (by rfl) ?_))
  refine ⟨m1, L1, J1, ?_, a2, a3, a4, a5, by omega⟩
  refine ⟨e_LT_merge, rfl, Nat.le_of_ble_eq_true rfl, ?_⟩
  repeat (first | exact a1 | refine ev_go rfl (by rfl) ?_ | refine ev_gf rfl (by assumption) (by rfl) (by rfl) ?_)
end FLUSH
