/-! THE REFERENCE: enter, put, out (own text) -/
/-- the newest moment up to w that has a key; 0 if none has -/
def Nwt (K : Nat → Nat) (κ w w' : Nat) : Prop := w' ≤ w ∧ (∀ t, w' < t → t ≤ w → K t ≠ κ) ∧ (w' = 0 ∨ K w' = κ)
theorem Nwt_iff {K th : Nat → Nat} {κ P w' : Nat} (h : Nwt K κ P w') : (∃ t, hst K th P t ∧ K t = κ) ↔ (1 ≤ w' ∧ th w' = 1) := by
  obtain ⟨h1, h2, h3⟩ := h
  constructor
  · rintro ⟨t, ⟨q1, q2, q3, q4⟩, q5⟩
    have hle : t ≤ w' := by
      rcases Nat.lt_or_ge w' t with c | c
      · exact absurd q5 (h2 t c q2)
      · exact c
    have hw : w' = t := by
      rcases h3 with c | c
      · omega
      · rcases Nat.lt_or_ge t w' with e | e
        · exact absurd (c.trans q5.symm) (q4 w' e h1)
        · omega
    rw [hw]
    exact ⟨q1, q3⟩
  · rintro ⟨q1, q2⟩
    have hk : K w' = κ := by
      rcases h3 with c | c
      · omega
      · exact c
    exact ⟨w', ⟨q1, h1, q2, fun t' a b e => h2 t' a b (e.trans hk)⟩, hk⟩
theorem n_m1 : nI 0 - 1 = (-1 : Int32) := by decide
/-- keys with the tape's first k bytes behind the place p -/
def cpK (K b : Nat → Int32) (p : Nat) : Nat → Nat → Int32
  | 0 => K
  | k + 1 => upd (cpK K b p k) (p + k) (b k)
theorem cpK_at (K b : Nat → Int32) (p : Nat) : ∀ (n j : Nat), cpK K b p n j = if p ≤ j ∧ j < p + n then b (j - p) else K j
  | 0, j => by rw [if_neg (by omega)]; rfl
  | n + 1, j => by
    show upd (cpK K b p n) (p + n) (b n) j = _
    by_cases c : j = p + n
    · subst c
      rw [upd_at, if_pos (by omega), show p + n - p = n by omega]
    · rw [upd_nat _ _ c, cpK_at K b p n j]
      by_cases c2 : p ≤ j ∧ j < p + n
      · rw [if_pos c2, if_pos (by omega)]
      · rw [if_neg c2, if_neg (by omega)]
section MENTER
variable {mem : j_M} {K Ln Pl Sz : Nat → Int32} {G : Nat → Nat → Int64} {P : Nat} {fa sd at' : Int32} {tp n : Nat} {b : Nat → Int32}
theorem Mar_69 (h : Mar mem K Ln Pl Sz) (c : j_C) : Mar (j_set mem 69 c) K Ln Pl Sz := h
theorem m_enter (d : Nat) {x y : Int32} {th : Nat} (hP : P < 500) (h : Mo mem fa n P sd at') (h70 : mem.2.2 70 = some (.inl (2, 60, .inl b))) (ha : Mar mem K Ln Pl Sz) (hh : Mh K Ln Pl Sz G P) (hn : n ≤ 40) (hB : Byt b) (hy : (th = 0 ∧ y < 0) ∨ (th = 1 ∧ 0 ≤ y)) :
    ∃ mem' bef, j_ex tb (d + 2) m_Mo_enter [.ref 69, .int x, .int y] mem (.inl (some (.int (nI (P + 1))))) mem' ∧ Mo mem' fa 0 (P + 1) (sd + (nI th - nI bef)) at' ∧ Mar mem' (cpK K b (40 * P) n) (upd Ln P (nI n)) (upd Pl P x) (upd Sz P y) ∧ ((bef = 1 ∧ ∃ t, hst (gK G) (gT G) P t ∧ gK G t = ky b n) ∨ (bef = 0 ∧ ¬ ∃ t, hst (gK G) (gT G) P t ∧ gK G t = ky b n)) ∧ mem'.1 = mem.1 ∧ mem'.2.1 = mem.2.1 ∧ ∀ c, c ≠ 69 → c ≠ 71 → c ≠ 72 → c ≠ 73 → c ≠ 74 → mem'.2.2 c = mem.2.2 c := by
  generalize hm1 : j_set mem 69 (moC fa 0 P sd at') = m1
  have mo1 : Mo m1 fa 0 P sd at' := by rw [← hm1]; rfl
  have ar1 : Mar m1 K Ln Pl Sz := by rw [← hm1]; exact Mar_69 ha _
  have t1 : m1.2.2 70 = some (.inl (2, 60, .inl b)) := by rw [← hm1]; exact h70
  have o1 := mo1
  unfold Mo moC at o1
  -- the newest of the key
  have loop : ∀ w, w ≤ P → ∃ w', Nwt (gK G) (ky b n) w w' ∧ ∀ o mo, j_ev (d + 2) (j_ex tb (d + 1)) (j_tab q_Mo_enter) [] (o) (mo) 55 [some (.ref 69), some (.int x), some (.int y), some (.int (nI n)), some (.int (nI w' - 1)), none] [] m1 → j_ev (d + 2) (j_ex tb (d + 1)) (j_tab q_Mo_enter) [] (o) (mo) 34 [some (.ref 69), some (.int x), some (.int y), some (.int (nI n)), some (.int (nI w - 1)), none] [] m1 := by
    intro w
    induction w with
    | zero =>
      intro _
      refine ⟨0, ⟨Nat.le_refl _, fun t a b => by omega, Or.inl rfl⟩, fun o mo kk => ?_⟩
      repeat (first | exact kk | refine ev_go rfl (by rfl) ?_ | refine ev_gf rfl (by assumption) (by rfl) (by rfl) ?_)
    | succ w ih =>
      intro hw
      obtain ⟨r, k1, k2, k3⟩ := m_cmpT d (v := w) (by omega) mo1 t1 ar1 hh (by omega) hn
      by_cases c : gK G (w + 1) = ky b n
      · refine ⟨w + 1, ⟨Nat.le_refl _, fun t a b => by omega, Or.inr c⟩, fun o mo kk => ?_⟩
        rw [nI_pred] at kk ⊢
        rw [k3.mpr c] at k1
        repeat (first | refine ev_go rfl (by rfl) ?_ | refine ev_gf rfl (by assumption) (by rfl) (by rfl) ?_)
        refine ev_ifF rfl (by exact b_nlt (a := w) (b := 0) (by omega) (by omega) (by omega)) ?_
        repeat (first | refine ev_go rfl (by rfl) ?_ | refine ev_gf rfl (by assumption) (by rfl) (by rfl) ?_)
        refine ev_cv (as := [.int (nI w), .int (nI n)]) rfl rfl rfl (by assumption) (by rfl) (by rfl) (k1) ?_
        repeat (first | exact kk | refine ev_go rfl (by rfl) ?_ | refine ev_gf rfl (by assumption) (by rfl) (by rfl) ?_)
      · obtain ⟨w', ⟨q1, q2, q3⟩, q4⟩ := ih (by omega)
        refine ⟨w', ⟨by omega, fun t a b => ?_, q3⟩, fun o mo kk => ?_⟩
        · by_cases e : t = w + 1
          · rw [e]; exact c
          · exact q2 t a (by omega)
        · have zz := q4 o mo kk
          rw [← w_m1] at zz
          rw [nI_pred]
          repeat (first | refine ev_go rfl (by rfl) ?_ | refine ev_gf rfl (by assumption) (by rfl) (by rfl) ?_)
          refine ev_ifF rfl (by exact b_nlt (a := w) (b := 0) (by omega) (by omega) (by omega)) ?_
          repeat (first | refine ev_go rfl (by rfl) ?_ | refine ev_gf rfl (by assumption) (by rfl) (by rfl) ?_)
          refine ev_cv (as := [.int (nI w), .int (nI n)]) rfl rfl rfl (by assumption) (by rfl) (by rfl) (k1) ?_
          refine ev_ifF rfl (by exact decide_eq_false (fun q => c (k3.mp q))) ?_
          repeat (first | exact zz | refine ev_go rfl (by rfl) ?_ | refine ev_gf rfl (by assumption) (by rfl) (by rfl) ?_)
  obtain ⟨w, hw, pre1⟩ := loop P (Nat.le_refl _)
  have hiff := Nwt_iff (th := gT G) hw
  -- the count of what stands
  have st2 : ∃ bef, ((bef = 1 ∧ ∃ t, hst (gK G) (gT G) P t ∧ gK G t = ky b n) ∨ (bef = 0 ∧ ¬ ∃ t, hst (gK G) (gT G) P t ∧ gK G t = ky b n)) ∧ ∀ o mo, j_ev (d + 2) (j_ex tb (d + 1)) (j_tab q_Mo_enter) [] (o) (mo) 94 [some (.ref 69), some (.int x), some (.int y), some (.int (nI n)), some (.int (nI w - 1)), none] [] (j_set m1 69 (moC fa 0 P (sd + (nI th - nI bef)) at')) → j_ev (d + 2) (j_ex tb (d + 1)) (j_tab q_Mo_enter) [] (o) (mo) 55 [some (.ref 69), some (.int x), some (.int y), some (.int (nI n)), some (.int (nI w - 1)), none] [] m1 := by
    have s74 := ar1.2.2.2
    have hyb : ∀ o mo, j_ev (d + 2) (j_ex tb (d + 1)) (j_tab q_Mo_enter) [] (o) (mo) 69 [some (.ref 69), some (.int x), some (.int y), some (.int (nI n)), some (.int (nI w - 1)), none] [.int (nI th), .int sd, .ref 69] m1 → j_ev (d + 2) (j_ex tb (d + 1)) (j_tab q_Mo_enter) [] (o) (mo) 55 [some (.ref 69), some (.int x), some (.int y), some (.int (nI n)), some (.int (nI w - 1)), none] [] m1 := by
      intro o mo kk
      rcases hy with ⟨e, hy⟩ | ⟨e, hy⟩
      · subst e
        repeat (first | refine ev_go rfl (by rfl) ?_ | refine ev_gf rfl (by assumption) (by rfl) (by rfl) ?_)
        refine ev_ifT rfl (decide_eq_true hy) ?_
        repeat (first | exact kk | refine ev_go rfl (by rfl) ?_ | refine ev_gf rfl (by assumption) (by rfl) (by rfl) ?_)
      · subst e
        repeat (first | refine ev_go rfl (by rfl) ?_ | refine ev_gf rfl (by assumption) (by rfl) (by rfl) ?_)
        refine ev_ifF rfl (decide_eq_false (fun q => by
          have h1 := Int32.lt_iff_toInt_lt.mp q
          have h2 := Int32.le_iff_toInt_le.mp hy
          omega)) ?_
        repeat (first | exact kk | refine ev_go rfl (by rfl) ?_ | refine ev_gf rfl (by assumption) (by rfl) (by rfl) ?_)
    rcases Nat.eq_zero_or_pos w with c | c
    · subst c
      refine ⟨0, Or.inr ⟨rfl, fun q => by have := (hiff.mp q).1; omega⟩, fun o mo kk => hyb o mo ?_⟩
      repeat (first | refine ev_go rfl (by rfl) ?_ | refine ev_gf rfl (by assumption) (by rfl) (by rfl) ?_)
      refine ev_pf rfl (by assumption) (by rfl) (by rfl) (by rfl) ?_
      exact kk
    · obtain ⟨w, rfl⟩ : ∃ w', w = w' + 1 := ⟨w - 1, by omega⟩
      have hwP := hw.1
      have hsz := Mh_sz hh (show w < P by omega)
      rcases gT_01 G (w + 1) with e | e
      · refine ⟨0, Or.inr ⟨rfl, fun q => by have := (hiff.mp q).2; omega⟩, fun o mo kk => hyb o mo ?_⟩
        rw [nI_pred] at kk ⊢
        repeat (first | refine ev_go rfl (by rfl) ?_ | refine ev_gf rfl (by assumption) (by rfl) (by rfl) ?_)
        refine ev_ifF rfl (by exact b_nlt (a := w) (b := 0) (by omega) (by omega) (by omega)) ?_
        repeat (first | refine ev_go rfl (by rfl) ?_ | refine ev_gf rfl (by assumption) (by rfl) (by rfl) ?_)
        refine ev_aliN (i := w) rfl (by assumption) (by omega) (by omega) ?_
        refine ev_ifT rfl (decide_eq_true (hsz.2.mpr e)) ?_
        repeat (first | refine ev_go rfl (by rfl) ?_ | refine ev_gf rfl (by assumption) (by rfl) (by rfl) ?_)
        refine ev_pf rfl (by assumption) (by rfl) (by rfl) (by rfl) ?_
        exact kk
      · refine ⟨1, Or.inl ⟨rfl, hiff.mpr ⟨by omega, e⟩⟩, fun o mo kk => hyb o mo ?_⟩
        rw [nI_pred] at kk ⊢
        repeat (first | refine ev_go rfl (by rfl) ?_ | refine ev_gf rfl (by assumption) (by rfl) (by rfl) ?_)
        refine ev_ifF rfl (by exact b_nlt (a := w) (b := 0) (by omega) (by omega) (by omega)) ?_
        repeat (first | refine ev_go rfl (by rfl) ?_ | refine ev_gf rfl (by assumption) (by rfl) (by rfl) ?_)
        refine ev_aliN (i := w) rfl (by assumption) (by omega) (by omega) ?_
        refine ev_ifF rfl (decide_eq_false (fun q => by have := hsz.2.mp q; omega)) ?_
        repeat (first | refine ev_go rfl (by rfl) ?_ | refine ev_gf rfl (by assumption) (by rfl) (by rfl) ?_)
        refine ev_pf rfl (by assumption) (by rfl) (by rfl) (by rfl) ?_
        exact kk
  obtain ⟨bef, hbef, pre2⟩ := st2
  generalize hsd : sd + (nI th - nI bef) = sd' at *
  generalize hm2 : j_set m1 69 (moC fa 0 P sd' at') = m2 at pre2
  -- the key's bytes
  have o2 : m2.2.2 69 = some (moC fa 0 P sd' at') := by rw [← hm2]; rfl
  have ar2 : Mar m2 K Ln Pl Sz := by rw [← hm2]; exact Mar_69 ar1 _
  have t2 : m2.2.2 70 = some (.inl (2, 60, .inl b)) := by rw [← hm2]; exact t1
  have x2 : ∀ c, c ≠ 69 → m2.2.2 c = mem.2.2 c := fun c hc => by rw [← hm2, st_ne _ _ hc, ← hm1, st_ne _ _ hc]
  have m21 : m2.1 = mem.1 ∧ m2.2.1 = mem.2.1 := by rw [← hm2, ← hm1]; exact ⟨rfl, rfl⟩
  unfold moC at o2
  have cp : ∀ (g k : Nat), k + g = n → ∀ o mo, j_ev (d + 2) (j_ex tb (d + 1)) (j_tab q_Mo_enter) [] (o) (mo) 131 [some (.ref 69), some (.int x), some (.int y), some (.int (nI n)), some (.int (nI w - 1)), some (.int (nI n))] [] (j_set m2 71 (.inl (2, 20000, .inl (cpK K b (40 * P) n)))) → j_ev (d + 2) (j_ex tb (d + 1)) (j_tab q_Mo_enter) [] (o) (mo) 97 [some (.ref 69), some (.int x), some (.int y), some (.int (nI n)), some (.int (nI w - 1)), some (.int (nI k))] [] (j_set m2 71 (.inl (2, 20000, .inl (cpK K b (40 * P) k)))) := by
    intro g
    induction g with
    | zero =>
      intro k hk o mo kk
      have hk : k = n := by omega
      subst hk
      repeat (first | refine ev_go rfl (by rfl) ?_ | refine ev_gf rfl (by assumption) (by rfl) (by rfl) ?_)
      refine ev_icT rfl (by exact b_le (a := k) (b := k) (by omega) (by omega) (by omega)) ?_
      exact kk
    | succ g ih =>
      intro k hk o mo kk
      have zz := ih (k + 1) (by omega) o mo kk
      have e1 : (40 : Int32) * nI P + nI k = nI (40 * P + k) := by rw [show (40 : Int32) * nI P = nI (40 * P) from pk_mul 40 P, nI_add]
      have s71 : (j_set m2 71 (.inl (2, 20000, .inl (cpK K b (40 * P) k)))).2.2 71 = some (.inl (2, 20000, .inl (cpK K b (40 * P) k))) := rfl
      have s69 : (j_set m2 71 (.inl (2, 20000, .inl (cpK K b (40 * P) k)))).2.2 69 = _ := o2
      have s70 : (j_set m2 71 (.inl (2, 20000, .inl (cpK K b (40 * P) k)))).2.2 70 = _ := t2
      have e2 : j_set (j_set m2 71 (.inl (2, 20000, .inl (cpK K b (40 * P) k)))) 71 (.inl (2, 20000, .inl (upd (cpK K b (40 * P) k) (40 * P + k) (j_nb 2 (b k))))) = j_set m2 71 (.inl (2, 20000, .inl (cpK K b (40 * P) (k + 1)))) := by
        rw [st_st, hB k]
        rfl
      rw [← e2, ← nI_1 k] at zz
      clear e2 ih kk
      generalize cpK K b (40 * P) k = Kk at *
      generalize j_set m2 71 (.inl (2, 20000, .inl Kk)) = mk1 at *
      repeat (first | refine ev_go rfl (by rfl) ?_ | refine ev_gf rfl (by assumption) (by rfl) (by rfl) ?_)
      refine ev_icF rfl (by exact b_nle (a := n) (b := k) (by omega) (by omega) (by omega)) ?_
      repeat (first | refine ev_go rfl (by rfl) ?_ | refine ev_gf rfl (by assumption) (by rfl) (by rfl) ?_)
      refine ev_albN (i := k) rfl (by assumption) (by rfl) (by omega) (by omega) ?_
      refine ev_s (st' := [.int (b k), .int (nI (40 * P + k)), .ref 71]) (by rw [← e1]) ?_
      refine ev_abN (i := 40 * P + k) rfl (by assumption) (by rfl) (by omega) (by omega) (by omega) ?_
      repeat (first | exact zz | refine ev_go rfl (by rfl) ?_ | refine ev_gf rfl (by assumption) (by rfl) (by rfl) ?_)
  have e0 : j_set m2 71 (.inl (2, 20000, .inl (cpK K b (40 * P) 0))) = m2 := st_id ar2.1
  have pre3 := cp n 0 (by omega)
  rw [e0] at pre3
  generalize hK' : cpK K b (40 * P) n = K' at *
  generalize hm3 : j_set m2 71 (.inl (2, 20000, .inl K')) = m3 at pre3
  have x3 : ∀ c, c ≠ 71 → m3.2.2 c = m2.2.2 c := fun c hc => by rw [← hm3, st_ne _ _ hc]
  have s69 : m3.2.2 69 = _ := (x3 69 (by omega)).trans o2
  have s72 : m3.2.2 72 = _ := (x3 72 (by omega)).trans ar2.2.1
  have s73 : m3.2.2 73 = _ := (x3 73 (by omega)).trans ar2.2.2.1
  have s74 : m3.2.2 74 = _ := (x3 74 (by omega)).trans ar2.2.2.2
  have s71 : m3.2.2 71 = some (.inl (2, 20000, .inl K')) := by rw [← hm3]; exact st_same _ _ _
  have m31 : m3.1 = mem.1 ∧ m3.2.1 = mem.2.1 := by rw [← hm3]; exact m21
  refine ⟨j_set (j_set (j_set (j_set m3 72 (.inl (0, 500, .inl (upd Ln P (nI n))))) 73 (.inl (0, 500, .inl (upd Pl P x)))) 74 (.inl (0, 500, .inl (upd Sz P y)))) 69 (moC fa 0 (P + 1) sd' at'), bef, ?_, (by rw [hsd]; rfl), ⟨s71, rfl, rfl, rfl⟩, hbef, m31.1, m31.2, fun c c1 c2 c3 c4 c5 => ?_⟩
  · have fin : j_ev (d + 2) (j_ex tb (d + 1)) (j_tab q_Mo_enter) [] (.inl (some (.int (nI (P + 1))))) (j_set (j_set (j_set (j_set m3 72 (.inl (0, 500, .inl (upd Ln P (nI n))))) 73 (.inl (0, 500, .inl (upd Pl P x)))) 74 (.inl (0, 500, .inl (upd Sz P y)))) 69 (moC fa 0 (P + 1) sd' at')) 131 [some (.ref 69), some (.int x), some (.int y), some (.int (nI n)), some (.int (nI w - 1)), some (.int (nI n))] [] m3 := by
      have g72 : (j_set m3 72 (.inl (0, 500, .inl (upd Ln P (nI n))))).2.2 69 = _ := s69
      have h73 : (j_set m3 72 (.inl (0, 500, .inl (upd Ln P (nI n))))).2.2 73 = _ := s73
      have g73 : (j_set (j_set m3 72 (.inl (0, 500, .inl (upd Ln P (nI n))))) 73 (.inl (0, 500, .inl (upd Pl P x)))).2.2 69 = _ := s69
      have h74 : (j_set (j_set m3 72 (.inl (0, 500, .inl (upd Ln P (nI n))))) 73 (.inl (0, 500, .inl (upd Pl P x)))).2.2 74 = _ := s74
      have g74 : (j_set (j_set (j_set m3 72 (.inl (0, 500, .inl (upd Ln P (nI n))))) 73 (.inl (0, 500, .inl (upd Pl P x)))) 74 (.inl (0, 500, .inl (upd Sz P y)))).2.2 69 = _ := s69
      repeat (first | refine ev_go rfl (by rfl) ?_ | refine ev_gf rfl (by assumption) (by rfl) (by rfl) ?_)
      refine ev_aiN (i := P) rfl (by assumption) (by omega) (by omega) (by omega) ?_
      repeat (first | refine ev_go rfl (by rfl) ?_ | refine ev_gf rfl (by assumption) (by rfl) (by rfl) ?_)
      refine ev_aiN (i := P) rfl (by assumption) (by omega) (by omega) (by omega) ?_
      repeat (first | refine ev_go rfl (by rfl) ?_ | refine ev_gf rfl (by assumption) (by rfl) (by rfl) ?_)
      refine ev_aiN (i := P) rfl (by assumption) (by omega) (by omega) (by omega) ?_
      repeat (first | refine ev_go rfl (by rfl) ?_ | refine ev_gf rfl (by assumption) (by rfl) (by rfl) ?_)
      refine ev_vi (nI_1 P) ?_
      refine ev_pf rfl (by assumption) (by rfl) (by rfl) (by rfl) ?_
      refine ev_m (mem' := j_set (j_set (j_set (j_set m3 72 (.inl (0, 500, .inl (upd Ln P (nI n))))) 73 (.inl (0, 500, .inl (upd Pl P x)))) 74 (.inl (0, 500, .inl (upd Sz P y)))) 69 (moC fa 0 (P + 1) sd' at')) rfl ?_
      repeat (first | refine ev_go rfl (by rfl) ?_ | refine ev_gf rfl (by assumption) (by rfl) (by rfl) ?_)
      exact j_ev.ret rfl
    have fin2 := pre2 _ _ (show j_ev (d + 2) (j_ex tb (d + 1)) (j_tab q_Mo_enter) [] (.inl (some (.int (nI (P + 1))))) (j_set (j_set (j_set (j_set m3 72 (.inl (0, 500, .inl (upd Ln P (nI n))))) 73 (.inl (0, 500, .inl (upd Pl P x)))) 74 (.inl (0, 500, .inl (upd Sz P y)))) 69 (moC fa 0 (P + 1) sd' at')) 94 [some (.ref 69), some (.int x), some (.int y), some (.int (nI n)), some (.int (nI w - 1)), none] [] m2 from by
      have z := pre3 _ _ fin
      repeat (first | exact z | refine ev_go rfl (by rfl) ?_ | refine ev_gf rfl (by assumption) (by rfl) (by rfl) ?_))
    have fin3 := pre1 _ _ fin2
    generalize j_set (j_set (j_set (j_set m3 72 (.inl (0, 500, .inl (upd Ln P (nI n))))) 73 (.inl (0, 500, .inl (upd Pl P x)))) 74 (.inl (0, 500, .inl (upd Sz P y)))) 69 (moC fa 0 (P + 1) sd' at') = mo at *
    have oo := h
    unfold Mo moC at oo
    refine ⟨e_Mo_enter, rfl, Nat.le_of_ble_eq_true rfl, ?_⟩
    repeat (first | refine ev_go rfl (by rfl) ?_ | refine ev_gf rfl (by assumption) (by rfl) (by rfl) ?_)
    refine ev_pf rfl (by assumption) (by rfl) (by rfl) (by rfl) ?_
    refine ev_m hm1 ?_
    repeat (first | refine ev_go rfl (by rfl) ?_ | refine ev_gf rfl (by assumption) (by rfl) (by rfl) ?_)
    refine ev_icT rfl (by exact b_ne (a := P) (b := 500) (by omega) (by omega) (by omega)) ?_
    repeat (first | exact fin3 | refine ev_go rfl (by rfl) ?_ | refine ev_gf rfl (by assumption) (by rfl) (by rfl) ?_)
  · rw [st_ne _ _ c1, st_ne _ _ c5, st_ne _ _ c4, st_ne _ _ c3, x3 c c2, x2 c c1]
end MENTER
