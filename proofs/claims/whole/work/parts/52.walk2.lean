/-! WALK: the rest (own text) -/
section WALK2
variable {mem : j_M} {hn un : Int32} {a s cnt : Nat → Nat} {fv fn : Nat → Int64} {W : Nat → Nat → Nat → Int64}
/-- what the walk's methods leave as it was -/
def Wf (mem mem' : j_M) : Prop := mem'.1 = mem.1 ∧ mem'.2.1 = mem.2.1 ∧ ∀ c, c < 48 ∨ 66 ≤ c → mem'.2.2 c = mem.2.2 c
theorem Wf_refl (mem : j_M) : Wf mem mem := ⟨rfl, rfl, fun _ _ => rfl⟩
theorem Wf_trans {m1 m2 m3 : j_M} (h : Wf m1 m2) (h' : Wf m2 m3) : Wf m1 m3 := ⟨h'.1.trans h.1, h'.2.1.trans h.2.1, fun c hc => (h'.2.2 c hc).trans (h.2.2 c hc)⟩
theorem Wf_set (mem : j_M) {c : Nat} (x : j_C) (h : 48 ≤ c ∧ c < 66) : Wf mem (j_set mem c x) := ⟨rfl, rfl, fun c' hc => st_ne _ _ (by omega)⟩
theorem Rd_wf {mem' : j_M} (h : Rd mem cnt W) (hf : Wf mem mem') : Rd mem' cnt W := Rd_fr h hf.1 (fun c hc => hf.2.2 c (by unfold rcell at hc; omega))
theorem Wq_hn (hn' un' : Int32) (h : Wq mem hn un a s fv fn W) : Wq (j_set mem 48 (.inr (6, [.int hn', .int un', .ref 19, .ref 49, .ref 50, .ref 51, .ref 52, .ref 54]))) hn' un' a s fv fn W := by
  obtain ⟨w1, w2, w3, ⟨Hf, w4, w4'⟩, ⟨Hr, w5, w5'⟩, w6, w7, w8⟩ := h
  refine ⟨rfl, w2, w3, ⟨Hf, w4, w4'⟩, ⟨Hr, w5, w5'⟩, w6, w7, fun r hr => ?_⟩
  obtain ⟨f, e1, e2⟩ := w8 r hr
  exact ⟨f, ⟨by rw [st_ne _ _ (by omega)]; exact e1.1, by rw [st_ne _ _ (by omega)]; exact e1.2⟩, e2⟩
theorem x_Wk_version (d : Nat) (h : Wq mem hn un a s fv fn W) : j_ex tb (d + 1) m_Wk_version [.ref 48] mem (.inl (some (.ref 52))) mem := by
  have h1 := h.1
  refine ⟨e_Wk_version, rfl, Nat.le_of_ble_eq_true rfl, ?_⟩
  repeat (first | refine ev_go rfl (by rfl) ?_ | refine ev_gf rfl (by assumption) (by rfl) (by rfl) ?_)
  exact j_ev.ret rfl
theorem x_Wk_until (d : Nat) (h : Wq mem hn un a s fv fn W) : j_ex tb (d + 1) m_Wk_until [.ref 48] mem (.inl (some (.int un))) mem := by
  have h1 := h.1
  refine ⟨e_Wk_until, rfl, Nat.le_of_ble_eq_true rfl, ?_⟩
  repeat (first | refine ev_go rfl (by rfl) ?_ | refine ev_gf rfl (by assumption) (by rfl) (by rfl) ?_)
  exact j_ev.ret rfl
theorem x_Wk_isSomethingAt (d : Nat) {u m : Nat} (h : Wq mem hn (nI u) a s fv fn W) (hu : u < 2 ^ 31) (hm : m < 2 ^ 31) : j_ex tb (d + 2) m_Wk_isSomethingAt [.ref 48, .int (nI m)] mem (.inl (some (.int (if v_th fv = 1 ∧ v_mom fv ≤ m ∧ m < u then 1 else 0)))) mem := by
  have h1 := h.1
  have hv := h.2.2.2.2.2.1
  have v1 := hv.1
  have ht := x_Ve_isThere d hv
  have hmo := x_Ve_moment d hv
  have hth : v_th fv = 0 ∨ v_th fv = 1 := by unfold v_th; omega
  have hml : v_mom fv < 1024 := Nat.mod_lt _ (by decide)
  refine ⟨e_Wk_isSomethingAt, rfl, Nat.le_of_ble_eq_true rfl, ?_⟩
  repeat (first | refine ev_go rfl (by rfl) ?_ | refine ev_gf rfl (by assumption) (by rfl) (by rfl) ?_)
  refine ev_cv (as := []) rfl rfl rfl (by assumption) (by rfl) (by rfl) (ht) ?_
  rcases hth with c | c
  · rw [c, if_neg (by omega)]
    repeat (first | refine ev_go rfl (by rfl) ?_ | refine ev_gf rfl (by assumption) (by rfl) (by rfl) ?_)
    exact j_ev.ret rfl
  · rw [c]
    repeat (first | refine ev_go rfl (by rfl) ?_ | refine ev_gf rfl (by assumption) (by rfl) (by rfl) ?_)
    refine ev_cv (as := []) rfl rfl rfl (by assumption) (by rfl) (by rfl) (hmo) ?_
    repeat (first | refine ev_go rfl (by rfl) ?_ | refine ev_gf rfl (by assumption) (by rfl) (by rfl) ?_)
    by_cases c1 : m < v_mom fv
    · rw [if_neg (by omega)]
      refine ev_icT rfl (by exact b_lt (a := m) (b := v_mom fv) (by omega) (by omega) (by omega)) ?_
      repeat (first | refine ev_go rfl (by rfl) ?_ | refine ev_gf rfl (by assumption) (by rfl) (by rfl) ?_)
      exact j_ev.ret rfl
    · refine ev_icF rfl (by exact b_nlt (a := m) (b := v_mom fv) (by omega) (by omega) (by omega)) ?_
      repeat (first | refine ev_go rfl (by rfl) ?_ | refine ev_gf rfl (by assumption) (by rfl) (by rfl) ?_)
      by_cases c2 : u ≤ m
      · rw [if_neg (by omega)]
        refine ev_icT rfl (by exact b_le (a := u) (b := m) (by omega) (by omega) (by omega)) ?_
        repeat (first | refine ev_go rfl (by rfl) ?_ | refine ev_gf rfl (by assumption) (by rfl) (by rfl) ?_)
        exact j_ev.ret rfl
      · rw [if_pos (by omega)]
        refine ev_icF rfl (by exact b_nle (a := u) (b := m) (by omega) (by omega) (by omega)) ?_
        repeat (first | refine ev_go rfl (by rfl) ?_ | refine ev_gf rfl (by assumption) (by rfl) (by rfl) ?_)
        exact j_ev.ret rfl
theorem x_Wk_begin (d : Nat) (h : Wq mem hn un a s fv fn W) (hR : Rd mem cnt W) (hs : ∀ r, r < 5 → s r ≤ cnt r) (has : ∀ r, r < 5 → a r ≤ s r) :
    ∃ mem', j_ex tb (d + 7) m_Wk_begin [.ref 48] mem (.inl none) mem' ∧ Wf mem mem' ∧
    (((∀ r, r < 5 → s r ≤ a r) ∧ Wq mem' 0 un a s fv fn W) ∨
    ∃ l fn', l < 5 ∧ a l < s l ∧ (∀ r, r < 5 → a r < s r → v_ord (W l (a l)) ≤ v_ord (W r (a r))) ∧ sw fn' (W l (a l)) ∧ Wq mem' 1 un (va_up a l (a l + 1)) s fv fn' W) := by
  have h1 := h.1
  rcases x_Wk_takeNext d h hR hs has with ⟨k1, k2⟩ | ⟨l, fn', m1, k1, k2, k3, k4, k5, k6, k7, k8, k9⟩
  · refine ⟨_, ?_, Wf_set mem _ (by omega), Or.inl ⟨k1, Wq_hn 0 un h⟩⟩
    refine ⟨e_Wk_begin, rfl, Nat.le_of_ble_eq_true rfl, ?_⟩
    repeat (first | refine ev_go rfl (by rfl) ?_ | refine ev_gf rfl (by assumption) (by rfl) (by rfl) ?_)
    refine ev_cv (as := []) rfl rfl rfl (by assumption) (by rfl) (by rfl) (k2) ?_
    refine ev_pf rfl (by assumption) (by rfl) (by rfl) (by rfl) ?_
    exact j_ev.ret rfl
  · have m48 := k6.1
    refine ⟨_, ?_, Wf_trans ⟨k7, k8, fun c hc => k9 c (by omega) (by omega) (by omega)⟩ (Wf_set m1 _ (by omega)), Or.inr ⟨l, fn', k1, k2, k3, k4, Wq_hn 1 un k6⟩⟩
    refine ⟨e_Wk_begin, rfl, Nat.le_of_ble_eq_true rfl, ?_⟩
    repeat (first | refine ev_go rfl (by rfl) ?_ | refine ev_gf rfl (by assumption) (by rfl) (by rfl) ?_)
    refine ev_cv (as := []) rfl rfl rfl (by assumption) (by rfl) (by rfl) (k5) ?_
    refine ev_pf rfl (by assumption) (by rfl) (by rfl) (by rfl) ?_
    exact j_ev.ret rfl
theorem x_Wk_advance0 (d : Nat) (h : Wq mem 0 un a s fv fn W) : j_ex tb (d + 1) m_Wk_advance [.ref 48] mem (.inl (some (.int 0))) mem := by
  have h1 := h.1
  refine ⟨e_Wk_advance, rfl, Nat.le_of_ble_eq_true rfl, ?_⟩
  repeat (first | refine ev_go rfl (by rfl) ?_ | refine ev_gf rfl (by assumption) (by rfl) (by rfl) ?_)
  exact j_ev.ret rfl
theorem x_Wk_advance (d : Nat) (h : Wq mem 1 un a s fv fn W) (hR : Rd mem cnt W) (hs : ∀ r, r < 5 → s r ≤ cnt r) (has : ∀ r, r < 5 → a r ≤ s r) :
    ∃ mem' fv', j_ex tb (d + 7) m_Wk_advance [.ref 48] mem (.inl (some (.int 1))) mem' ∧ Wf mem mem' ∧ sw fv' fn ∧
    (((∀ r, r < 5 → s r ≤ a r) ∧ Wq mem' 0 (nI 1023) a s fv' fn W) ∨
    ∃ l fn', l < 5 ∧ a l < s l ∧ (∀ r, r < 5 → a r < s r → v_ord (W l (a l)) ≤ v_ord (W r (a r))) ∧ sw fn' (W l (a l)) ∧ Wq mem' 1 (nI (if v_key fn' = v_key fn then v_mom fn' else 1023)) (va_up a l (a l + 1)) s fv' fn' W) := by
  have h1 := h.1
  have hv := h.2.2.2.2.2.1
  have hx := h.2.2.2.2.2.2.1
  have kc := x_Ve_copy (d + 5) hv hx (by omega) (by omega)
  have swn : sw (va_cpy fn fv 0 0 6) fn := fun j hj => v_cpy hj
  change j_ex tb (d + 5 + 1) m_Ve_copy [.ref 52, .ref 54] mem (.inl none) (j_set mem 53 (vW (va_cpy fn fv 0 0 6))) at kc
  generalize va_cpy fn fv 0 0 6 = fv' at *
  have hq0 : Wq (j_set mem 53 (vW fv')) 1 un a s fv' fn W := by
    obtain ⟨w1, w2, w3, ⟨Hf, w4, w4'⟩, ⟨Hr, w5, w5'⟩, w6, w7, w8⟩ := h
    refine ⟨w1, w2, w3, ⟨Hf, w4, w4'⟩, ⟨Hr, w5, w5'⟩, ⟨w6.1, rfl⟩, w7, fun r hr => ?_⟩
    obtain ⟨f, e1, e2⟩ := w8 r hr
    exact ⟨f, ⟨by rw [st_ne _ _ (by omega)]; exact e1.1, by rw [st_ne _ _ (by omega)]; exact e1.2⟩, e2⟩
  have hf0 : Wf mem (j_set mem 53 (vW fv')) := Wf_set mem _ (by omega)
  generalize hm0 : j_set mem 53 (vW fv') = m0 at *
  have hR0 := Rd_wf hR hf0
  have v1 := hv.1
  have g48 := hq0.1
  rcases x_Wk_takeNext d hq0 hR0 hs has with ⟨k1, k2⟩ | ⟨l, fn', m1, k1, k2, k3, k4, k5, k6, k7, k8, k9⟩
  · have hqa := Wq_hn 0 un hq0
    have hqb := Wq_hn 0 (nI 1023) hqa
    have g48b := hqa.1
    refine ⟨_, fv', ?_, Wf_trans hf0 (Wf_trans (Wf_set m0 _ (by omega)) (Wf_set _ _ (by omega))), swn, Or.inl ⟨k1, hqb⟩⟩
    refine ⟨e_Wk_advance, rfl, Nat.le_of_ble_eq_true rfl, ?_⟩
    repeat (first | refine ev_go rfl (by rfl) ?_ | refine ev_gf rfl (by assumption) (by rfl) (by rfl) ?_)
    refine ev_cv (as := [.ref 54]) rfl rfl rfl (by assumption) (by rfl) (by rfl) (kc) ?_
    repeat (first | refine ev_go rfl (by rfl) ?_ | refine ev_gf rfl (by assumption) (by rfl) (by rfl) ?_)
    refine ev_cv (as := []) rfl rfl rfl (by assumption) (by rfl) (by rfl) (k2) ?_
    refine ev_pf rfl (by assumption) (by rfl) (by rfl) (by rfl) ?_
    refine ev_m (mem' := j_set m0 48 (.inr (6, [.int 0, .int un, .ref 19, .ref 49, .ref 50, .ref 51, .ref 52, .ref 54]))) rfl ?_
    repeat (first | refine ev_go rfl (by rfl) ?_ | refine ev_gf rfl (by assumption) (by rfl) (by rfl) ?_)
    exact j_ev.ret rfl
  · have hqa := Wq_hn 1 un k6
    have hqb := Wq_hn 1 (nI (if v_key fn' = v_key fn then v_mom fn' else 1023)) hqa
    have g48a := k6.1
    have g48b := hqa.1
    have hvb := hqa.2.2.2.2.2.1
    have hxb := hqa.2.2.2.2.2.2.1
    have hvb1 := hvb.1
    have hxb1 := hxb.1
    have hf1 : Wf m0 m1 := ⟨k7, k8, fun c hc => k9 c (by omega) (by omega) (by omega)⟩
    obtain ⟨r, c1, c2, c3⟩ := x_Ve_compareKey (d + 4) hxb hvb
    have km := x_Ve_moment (d + 5) hxb
    have hkk : v_key fv' = v_key fn := sw_key swn
    rw [hkk] at c2 c3
    refine ⟨_, fv', ?_, Wf_trans hf0 (Wf_trans hf1 (Wf_trans (Wf_set m1 _ (by omega)) (Wf_set _ _ (by omega)))), swn, Or.inr ⟨l, fn', k1, k2, k3, k4, hqb⟩⟩
    by_cases ck : v_key fn' = v_key fn
    · rw [if_pos ck]
      refine ⟨e_Wk_advance, rfl, Nat.le_of_ble_eq_true rfl, ?_⟩
      repeat (first | refine ev_go rfl (by rfl) ?_ | refine ev_gf rfl (by assumption) (by rfl) (by rfl) ?_)
      refine ev_cv (as := [.ref 54]) rfl rfl rfl (by assumption) (by rfl) (by rfl) (kc) ?_
      repeat (first | refine ev_go rfl (by rfl) ?_ | refine ev_gf rfl (by assumption) (by rfl) (by rfl) ?_)
      refine ev_cv (as := []) rfl rfl rfl (by assumption) (by rfl) (by rfl) (k5) ?_
      refine ev_pf rfl (by assumption) (by rfl) (by rfl) (by rfl) ?_
      refine ev_m (mem' := j_set m1 48 (.inr (6, [.int 1, .int un, .ref 19, .ref 49, .ref 50, .ref 51, .ref 52, .ref 54]))) rfl ?_
      repeat (first | refine ev_go rfl (by rfl) ?_ | refine ev_gf rfl (by assumption) (by rfl) (by rfl) ?_)
      refine ev_cv (as := [.ref 52]) rfl rfl rfl (by assumption) (by rfl) (by rfl) (c1) ?_
      rw [c3.mpr ck]
      repeat (first | refine ev_go rfl (by rfl) ?_ | refine ev_gf rfl (by assumption) (by rfl) (by rfl) ?_)
      refine ev_cv (as := []) rfl rfl rfl (by assumption) (by rfl) (by rfl) (km) ?_
      repeat (first | refine ev_go rfl (by rfl) ?_ | refine ev_gf rfl (by assumption) (by rfl) (by rfl) ?_)
      exact j_ev.ret rfl
    · rw [if_neg ck]
      refine ⟨e_Wk_advance, rfl, Nat.le_of_ble_eq_true rfl, ?_⟩
      repeat (first | refine ev_go rfl (by rfl) ?_ | refine ev_gf rfl (by assumption) (by rfl) (by rfl) ?_)
      refine ev_cv (as := [.ref 54]) rfl rfl rfl (by assumption) (by rfl) (by rfl) (kc) ?_
      repeat (first | refine ev_go rfl (by rfl) ?_ | refine ev_gf rfl (by assumption) (by rfl) (by rfl) ?_)
      refine ev_cv (as := []) rfl rfl rfl (by assumption) (by rfl) (by rfl) (k5) ?_
      refine ev_pf rfl (by assumption) (by rfl) (by rfl) (by rfl) ?_
      refine ev_m (mem' := j_set m1 48 (.inr (6, [.int 1, .int un, .ref 19, .ref 49, .ref 50, .ref 51, .ref 52, .ref 54]))) rfl ?_
      repeat (first | refine ev_go rfl (by rfl) ?_ | refine ev_gf rfl (by assumption) (by rfl) (by rfl) ?_)
      refine ev_cv (as := [.ref 52]) rfl rfl rfl (by assumption) (by rfl) (by rfl) (c1) ?_
      refine ev_ifT rfl (by exact decide_eq_true (fun q => ck (c3.mp q))) ?_
      repeat (first | refine ev_go rfl (by rfl) ?_ | refine ev_gf rfl (by assumption) (by rfl) (by rfl) ?_)
      exact j_ev.ret rfl
theorem x_Wk_clear (d : Nat) (h : Wq mem hn un a s fv fn W) : ∃ mem' a' s', j_ex tb (d + 2) m_Wk_clear [.ref 48] mem (.inl none) mem' ∧ Wf mem mem' ∧ (∀ r, r < 5 → a' r = 0 ∧ s' r = 0) ∧ Wq mem' hn un a' s' fv fn W := by
  have h1 := h.1
  have h2 := h.2.1
  have h3 := h.2.2.1
  have k1 := x_Ar_fillI d h2 (by omega) (by omega) 0
  have k2 := x_Ar_fillI d (mem := j_set mem 49 (.inl (0, 5, .inl (flI (fun r => nI (a r)) 5 0)))) (a := 50) h3 (by omega) (by omega) 0
  have e : ∀ x : Nat → Nat, flI (fun r => nI (x r)) 5 0 = fun r => nI ((fun j => if j < 5 then 0 else x j) r) := fun x => by
    funext j
    unfold flI
    by_cases c : j < 5
    · simp only [if_pos c]; rfl
    · simp only [if_neg c]
  have g1 : (j_set mem 49 (.inl (0, 5, .inl (flI (fun r => nI (a r)) 5 0)))).2.2 48 = some (.inr (6, [.int hn, .int un, .ref 19, .ref 49, .ref 50, .ref 51, .ref 52, .ref 54])) := h1
  refine ⟨_, fun j => if j < 5 then 0 else a j, fun j => if j < 5 then 0 else s j, ?_, Wf_trans (Wf_set mem (c := 49) (.inl (0, 5, .inl (flI (fun r => nI (a r)) 5 0))) (by omega)) (Wf_set _ (c := 50) (.inl (0, 5, .inl (flI (fun r => nI (s r)) 5 0))) (by omega)), fun r hr => ⟨if_pos hr, if_pos hr⟩, ?_⟩
  · refine ⟨e_Wk_clear, rfl, Nat.le_of_ble_eq_true rfl, ?_⟩
    repeat (first | refine ev_go rfl (by rfl) ?_ | refine ev_gf rfl (by assumption) (by rfl) (by rfl) ?_)
    refine j_ev.call rfl (k1) ?_
    repeat (first | refine ev_go rfl (by rfl) ?_ | refine ev_gf rfl (by assumption) (by rfl) (by rfl) ?_)
    refine j_ev.call rfl (k2) ?_
    exact j_ev.ret rfl
  · obtain ⟨w1, w2, w3, ⟨Hf, w4, w4'⟩, ⟨Hr, w5, w5'⟩, w6, w7, w8⟩ := h
    refine ⟨w1, ?_, ?_, ⟨Hf, w4, w4'⟩, ⟨Hr, w5, w5'⟩, w6, w7, fun r hr => ?_⟩
    · rw [← e a]; rfl
    · rw [← e s]; rfl
    · obtain ⟨f, e1, e2⟩ := w8 r hr
      refine ⟨f, ⟨by rw [st_ne _ _ (by omega), st_ne _ _ (by omega)]; exact e1.1, by rw [st_ne _ _ (by omega), st_ne _ _ (by omega)]; exact e1.2⟩, fun q => ?_⟩
      simp only [if_pos hr] at q
      omega
theorem x_Wk_cover (d : Nat) {r x y : Nat} (h : Wq mem hn un a s fv fn W) (hR : Rd mem cnt W) (hr : r < 5) (hxy : x < y) (hy : y ≤ cnt r) : ∃ mem', j_ex tb (d + 6) m_Wk_cover [.ref 48, .int (nI r), .int (nI x), .int (nI y)] mem (.inl none) mem' ∧ Wf mem mem' ∧ Wq mem' hn un (va_up a r x) (va_up s r y) fv fn W := by
  obtain ⟨w1, w2, w3, ⟨Hf, w4, w4'⟩, ⟨Hr, w5, w5'⟩, w6, w7, w8⟩ := h
  have hc := (hR.1 r hr).1
  obtain ⟨fs, hrun⟩ := (hR.1 r hr).2
  obtain ⟨fh, vh, _⟩ := w8 r hr
  generalize hm2 : j_set (j_set mem 49 (.inl (0, 5, .inl (fun q => nI (va_up a r x q))))) 50 (.inl (0, 5, .inl (fun q => nI (va_up s r y q)))) = m2
  have f2 : ∀ c, c ≠ 49 → c ≠ 50 → m2.2.2 c = mem.2.2 c := fun c c1 c2 => by rw [← hm2, st_ne _ _ c2, st_ne _ _ c1]
  have hf2 : Wf mem m2 := by rw [← hm2]; exact Wf_trans (Wf_set mem _ (by omega)) (Wf_set _ _ (by omega))
  have vh2 : Ve m2 (56 + 2 * r) (57 + 2 * r) fh := ⟨(f2 _ (by omega) (by omega)).trans vh.1, (f2 _ (by omega) (by omega)).trans vh.2⟩
  obtain ⟨f', r1, r2⟩ := hR.2 d m2 hf2.1 (fun c hc => hf2.2.2 c (by unfold rcell at hc; omega)) r x (56 + 2 * r) (57 + 2 * r) fh hr (by omega) vh2 (by omega)
  have q1 : m2.2.2 48 = _ := (f2 48 (by omega) (by omega)).trans w1
  have q4 : m2.2.2 51 = _ := (f2 51 (by omega) (by omega)).trans w4
  have q5 : m2.2.2 19 = _ := (f2 19 (by omega) (by omega)).trans w5
  have hrun2 : m2.2.2 (ra r) = some (.inr (rc r, fs)) := (f2 _ (by have := rcell_ra hr; unfold rcell at this; omega) (by have := rcell_ra hr; unfold rcell at this; omega)).trans hrun
  have p1 : (j_set mem 49 (.inl (0, 5, .inl (fun q => nI (va_up a r x q))))).2.2 48 = _ := w1
  have p3 : (j_set mem 49 (.inl (0, 5, .inl (fun q => nI (va_up a r x q))))).2.2 50 = _ := w3
  refine ⟨j_set m2 (57 + 2 * r) (vW f'), ?_, Wf_trans hf2 (Wf_set m2 _ (by omega)), ⟨?_, ?_, ?_, ⟨Hf, ?_, w4'⟩, ⟨Hr, ?_, w5'⟩, ⟨?_, ?_⟩, ⟨?_, ?_⟩, fun q hq => ?_⟩⟩
  · have hcc := rc_or r
    have pre : ∀ (mo : j_M), j_ev (d + 6) (j_ex tb (d + 5)) (j_tab q_Wk_cover) [] (.inl none) (mo) 28 [some (.ref 48), some (.int (nI r)), some (.int (nI x)), some (.int (nI y))] [] m2 → j_ex tb (d + 6) m_Wk_cover [.ref 48, .int (nI r), .int (nI x), .int (nI y)] mem (.inl none) mo := by
      intro mo kk
      refine ⟨e_Wk_cover, rfl, Nat.le_of_ble_eq_true rfl, ?_⟩
      repeat (first | refine ev_go rfl (by rfl) ?_ | refine ev_gf rfl (by assumption) (by rfl) (by rfl) ?_)
      refine ev_ifF rfl (by exact b_nlt (a := r) (b := 0) (by omega) (by omega) (by omega)) ?_
      repeat (first | refine ev_go rfl (by rfl) ?_ | refine ev_gf rfl (by assumption) (by rfl) (by rfl) ?_)
      refine ev_icF rfl (by exact b_nle (a := 5) (b := r) (by omega) (by omega) (by omega)) ?_
      repeat (first | refine ev_go rfl (by rfl) ?_ | refine ev_gf rfl (by assumption) (by rfl) (by rfl) ?_)
      refine ev_icF rfl (by exact b_nle (a := y) (b := x) (by omega) (by omega) (by omega)) ?_
      repeat (first | refine ev_go rfl (by rfl) ?_ | refine ev_gf rfl (by assumption) (by rfl) (by rfl) ?_)
      refine ev_aiN (i := r) rfl (by assumption) (by omega) (by omega) (by omega) ?_
      rw [nup]
      repeat (first | refine ev_go rfl (by rfl) ?_ | refine ev_gf rfl (by assumption) (by rfl) (by rfl) ?_)
      refine ev_aiN (i := r) rfl (by assumption) (by omega) (by omega) (by omega) ?_
      rw [nup]
      refine ev_m hm2 ?_
      exact kk
    refine pre _ ?_
    generalize rc r = c at *
    rcases hcc with rfl | rfl
    · repeat (first | refine ev_go rfl (by rfl) ?_ | refine ev_gf rfl (by assumption) (by rfl) (by rfl) ?_)
      refine ev_alqN (i := r) rfl (by assumption) (by rfl) (by omega) (by omega) ?_
      rw [w5' r hr]
      repeat (first | refine ev_go rfl (by rfl) ?_ | refine ev_gf rfl (by assumption) (by rfl) (by rfl) ?_)
      refine ev_alqN (i := r) rfl (by assumption) (by rfl) (by omega) (by omega) ?_
      rw [w4' r hr]
      refine ev_cv (as := [.int (nI x), .ref (56 + 2 * r)]) rfl rfl rfl (by assumption) (by rfl) (by rfl) (r2) ?_
      exact j_ev.ret rfl
    · repeat (first | refine ev_go rfl (by rfl) ?_ | refine ev_gf rfl (by assumption) (by rfl) (by rfl) ?_)
      refine ev_alqN (i := r) rfl (by assumption) (by rfl) (by omega) (by omega) ?_
      rw [w5' r hr]
      repeat (first | refine ev_go rfl (by rfl) ?_ | refine ev_gf rfl (by assumption) (by rfl) (by rfl) ?_)
      refine ev_alqN (i := r) rfl (by assumption) (by rfl) (by omega) (by omega) ?_
      rw [w4' r hr]
      refine ev_cv (as := [.int (nI x), .ref (56 + 2 * r)]) rfl rfl rfl (by assumption) (by rfl) (by rfl) (r2) ?_
      exact j_ev.ret rfl
  · rw [st_ne _ _ (by omega)]; exact q1
  · rw [st_ne _ _ (by omega), ← hm2]; rfl
  · rw [st_ne _ _ (by omega), ← hm2]; rfl
  · rw [st_ne _ _ (by omega)]; exact q4
  · rw [st_ne _ _ (by omega)]; exact q5
  · rw [st_ne _ _ (by omega), f2 _ (by omega) (by omega)]; exact w6.1
  · rw [st_ne _ _ (by omega), f2 _ (by omega) (by omega)]; exact w6.2
  · rw [st_ne _ _ (by omega), f2 _ (by omega) (by omega)]; exact w7.1
  · rw [st_ne _ _ (by omega), f2 _ (by omega) (by omega)]; exact w7.2
  · by_cases c : q = r
    · subst c
      refine ⟨f', ⟨by rw [st_ne _ _ (by omega)]; exact vh2.1, st_same _ _ _⟩, fun _ => ?_⟩
      rw [va_up_self]
      exact r1
    · obtain ⟨f, e1, e2⟩ := w8 q hq
      refine ⟨f, ⟨by rw [st_ne _ _ (by omega), f2 _ (by omega) (by omega)]; exact e1.1, by rw [st_ne _ _ (by omega), f2 _ (by omega) (by omega)]; exact e1.2⟩, ?_⟩
      rw [va_up_ne _ _ c, va_up_ne _ _ c]
      exact e2
theorem x_Wk_cover0 (d : Nat) {r x y : Nat} (h : Wq mem hn un a s fv fn W) (hr : r < 5) (hxy : y ≤ x) (hx : x < 2 ^ 31) : j_ex tb (d + 1) m_Wk_cover [.ref 48, .int (nI r), .int (nI x), .int (nI y)] mem (.inl none) mem := by
  refine ⟨e_Wk_cover, rfl, Nat.le_of_ble_eq_true rfl, ?_⟩
  repeat (first | refine ev_go rfl (by rfl) ?_ | refine ev_gf rfl (by assumption) (by rfl) (by rfl) ?_)
  refine ev_ifF rfl (by exact b_nlt (a := r) (b := 0) (by omega) (by omega) (by omega)) ?_
  repeat (first | refine ev_go rfl (by rfl) ?_ | refine ev_gf rfl (by assumption) (by rfl) (by rfl) ?_)
  refine ev_icF rfl (by exact b_nle (a := 5) (b := r) (by omega) (by omega) (by omega)) ?_
  repeat (first | refine ev_go rfl (by rfl) ?_ | refine ev_gf rfl (by assumption) (by rfl) (by rfl) ?_)
  refine ev_icT rfl (by exact b_le (a := y) (b := x) (by omega) (by omega) (by omega)) ?_
  exact j_ev.ret rfl
end WALK2
