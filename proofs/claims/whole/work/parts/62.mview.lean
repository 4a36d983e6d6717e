/-! THE REFERENCE: open, close (own text) -/
section MVIEW
variable {mem : j_M} {fa sd at' : Int32} {tp md : Nat} {s : Nat → Option Nat}
theorem x_Mo_viewR (d : Nat) {x : Int32} (h : Mo mem fa tp md sd at') (hx : x < 0 ∨ nI 8 ≤ x) : j_ex tb (d + 2) m_Mo_open [.ref 69, .int x] mem (.inl (some (.int 0))) (j_set mem 69 (moC 1 tp md sd at')) ∧ j_ex tb (d + 2) m_Mo_close [.ref 69, .int x] mem (.inl (some (.int 0))) (j_set mem 69 (moC 1 tp md sd at')) := by
  have h1 : mem.2.2 69 = _ := h
  unfold moC at h1
  have kf := x_Mo_fail d 1 (Mo_set (mem := mem) 0 tp md sd at')
  rw [st_st] at kf
  have g : (j_set mem 69 (moC 0 tp md sd at')).2.2 69 = some (.inr (11, [.int 0, .int (nI tp), .int (nI md), .int sd, .int at', .ref 70, .ref 71, .ref 72, .ref 73, .ref 74, .ref 75, .ref 76])) := rfl
  by_cases c : x < 0
  · refine ⟨?_, ?_⟩
    · refine ⟨e_Mo_open, rfl, Nat.le_of_ble_eq_true rfl, ?_⟩
      repeat (first | refine ev_go rfl (by rfl) ?_ | refine ev_gf rfl (by assumption) (by rfl) (by rfl) ?_)
      refine ev_pf rfl (by assumption) (by rfl) (by rfl) (by rfl) ?_
      refine ev_m (mem' := j_set mem 69 (moC 0 tp md sd at')) rfl ?_
      repeat (first | refine ev_go rfl (by rfl) ?_ | refine ev_gf rfl (by assumption) (by rfl) (by rfl) ?_)
      refine ev_ifT rfl (by exact decide_eq_true c) ?_
      repeat (first | refine ev_go rfl (by rfl) ?_ | refine ev_gf rfl (by assumption) (by rfl) (by rfl) ?_)
      refine ev_cv (as := [.int 1]) rfl rfl rfl (by assumption) (by rfl) (by rfl) (kf) ?_
      exact j_ev.ret rfl
    · refine ⟨e_Mo_close, rfl, Nat.le_of_ble_eq_true rfl, ?_⟩
      repeat (first | refine ev_go rfl (by rfl) ?_ | refine ev_gf rfl (by assumption) (by rfl) (by rfl) ?_)
      refine ev_pf rfl (by assumption) (by rfl) (by rfl) (by rfl) ?_
      refine ev_m (mem' := j_set mem 69 (moC 0 tp md sd at')) rfl ?_
      repeat (first | refine ev_go rfl (by rfl) ?_ | refine ev_gf rfl (by assumption) (by rfl) (by rfl) ?_)
      refine ev_ifT rfl (by exact decide_eq_true c) ?_
      repeat (first | refine ev_go rfl (by rfl) ?_ | refine ev_gf rfl (by assumption) (by rfl) (by rfl) ?_)
      refine ev_cv (as := [.int 1]) rfl rfl rfl (by assumption) (by rfl) (by rfl) (kf) ?_
      exact j_ev.ret rfl
  · have hx : nI 8 ≤ x := hx.resolve_left c
    have hx7 : ¬ x ≤ 7 := fun q => by
      rw [Int32.le_iff_toInt_le] at q hx
      have e1 : (7 : Int32).toInt = 7 := rfl
      have e2 : (nI 8).toInt = 8 := rfl
      omega
    refine ⟨?_, ?_⟩
    · refine ⟨e_Mo_open, rfl, Nat.le_of_ble_eq_true rfl, ?_⟩
      repeat (first | refine ev_go rfl (by rfl) ?_ | refine ev_gf rfl (by assumption) (by rfl) (by rfl) ?_)
      refine ev_pf rfl (by assumption) (by rfl) (by rfl) (by rfl) ?_
      refine ev_m (mem' := j_set mem 69 (moC 0 tp md sd at')) rfl ?_
      repeat (first | refine ev_go rfl (by rfl) ?_ | refine ev_gf rfl (by assumption) (by rfl) (by rfl) ?_)
      refine ev_ifF rfl (by exact decide_eq_false c) ?_
      repeat (first | refine ev_go rfl (by rfl) ?_ | refine ev_gf rfl (by assumption) (by rfl) (by rfl) ?_)
      refine ev_icF rfl (by exact decide_eq_false hx7) ?_
      repeat (first | refine ev_go rfl (by rfl) ?_ | refine ev_gf rfl (by assumption) (by rfl) (by rfl) ?_)
      refine ev_cv (as := [.int 1]) rfl rfl rfl (by assumption) (by rfl) (by rfl) (kf) ?_
      exact j_ev.ret rfl
    · refine ⟨e_Mo_close, rfl, Nat.le_of_ble_eq_true rfl, ?_⟩
      repeat (first | refine ev_go rfl (by rfl) ?_ | refine ev_gf rfl (by assumption) (by rfl) (by rfl) ?_)
      refine ev_pf rfl (by assumption) (by rfl) (by rfl) (by rfl) ?_
      refine ev_m (mem' := j_set mem 69 (moC 0 tp md sd at')) rfl ?_
      repeat (first | refine ev_go rfl (by rfl) ?_ | refine ev_gf rfl (by assumption) (by rfl) (by rfl) ?_)
      refine ev_ifF rfl (by exact decide_eq_false c) ?_
      repeat (first | refine ev_go rfl (by rfl) ?_ | refine ev_gf rfl (by assumption) (by rfl) (by rfl) ?_)
      refine ev_icF rfl (by exact decide_eq_false hx7) ?_
      repeat (first | refine ev_go rfl (by rfl) ?_ | refine ev_gf rfl (by assumption) (by rfl) (by rfl) ?_)
      refine ev_cv (as := [.int 1]) rfl rfl rfl (by assumption) (by rfl) (by rfl) (kf) ?_
      exact j_ev.ret rfl
theorem x_Mo_open (d : Nat) {i : Nat} (h : Mo mem fa tp md sd at') (hv : Mv mem s) (hi : i < 8) (hs : s i = none) : ∃ mem', j_ex tb (d + 2) m_Mo_open [.ref 69, .int (nI i)] mem (.inl (some (.int (nI md)))) mem' ∧ Mo mem' 0 tp md sd at' ∧ Mv mem' (va_up s i (some md)) ∧ mem'.1 = mem.1 ∧ mem'.2.1 = mem.2.1 ∧ ∀ c, c ≠ 69 → c ≠ 75 → c ≠ 76 → mem'.2.2 c = mem.2.2 c := by
  have h1 : mem.2.2 69 = _ := h
  unfold moC at h1
  obtain ⟨⟨op, o1, o2⟩, sv, v1, v2⟩ := hv
  have e0 : op i = 0 := by rw [o2 i hi, hs]; rfl
  have g75 : (j_set mem 69 (moC 0 tp md sd at')).2.2 75 = some (.inl (8, 8, .inl op)) := o1
  have g69 : ∀ x, (j_set (j_set mem 69 (moC 0 tp md sd at')) 75 x).2.2 69 = some (moC 0 tp md sd at') := fun x => rfl
  have g76 : (j_set (j_set mem 69 (moC 0 tp md sd at')) 75 (.inl (8, 8, .inl (upd op i 1)))).2.2 76 = some (.inl (0, 8, .inl sv)) := v1
  refine ⟨j_set (j_set (j_set mem 69 (moC 0 tp md sd at')) 75 (.inl (8, 8, .inl (upd op i 1)))) 76 (.inl (0, 8, .inl (upd sv i (nI md)))), ?_, rfl, ⟨⟨upd op i 1, rfl, fun j hj => ?_⟩, upd sv i (nI md), rfl, fun j m hj hm => ?_⟩, rfl, rfl, fun c c1 c2 c3 => by rw [st_ne _ _ c3, st_ne _ _ c2, st_ne _ _ c1]⟩
  · refine ⟨e_Mo_open, rfl, Nat.le_of_ble_eq_true rfl, ?_⟩
    repeat (first | refine ev_go rfl (by rfl) ?_ | refine ev_gf rfl (by assumption) (by rfl) (by rfl) ?_)
    refine ev_pf rfl (by assumption) (by rfl) (by rfl) (by rfl) ?_
    refine ev_m (mem' := j_set mem 69 (moC 0 tp md sd at')) rfl ?_
    repeat (first | refine ev_go rfl (by rfl) ?_ | refine ev_gf rfl (by assumption) (by rfl) (by rfl) ?_)
    refine ev_ifF rfl (by exact b_nlt (a := i) (b := 0) (by omega) (by omega) (by omega)) ?_
    repeat (first | refine ev_go rfl (by rfl) ?_ | refine ev_gf rfl (by assumption) (by rfl) (by rfl) ?_)
    refine ev_icT rfl (by exact b_le (a := i) (b := 7) (by omega) (by omega) (by omega)) ?_
    repeat (first | refine ev_go rfl (by rfl) ?_ | refine ev_gf rfl (by assumption) (by rfl) (by rfl) ?_)
    refine ev_albN (i := i) rfl (by assumption) (by rfl) (by omega) (by omega) ?_
    rw [e0]
    repeat (first | refine ev_go rfl (by rfl) ?_ | refine ev_gf rfl (by assumption) (by rfl) (by rfl) ?_)
    refine ev_abN (i := i) rfl (by assumption) (by rfl) (by omega) (by omega) (by omega) ?_
    rw [show j_nb 8 1 = 1 from rfl]
    repeat (first | refine ev_go rfl (by rfl) ?_ | refine ev_gf rfl (by assumption) (by rfl) (by rfl) ?_)
    refine ev_aiN (i := i) rfl (by assumption) (by omega) (by omega) (by omega) ?_
    repeat (first | refine ev_go rfl (by rfl) ?_ | refine ev_gf rfl (by assumption) (by rfl) (by rfl) ?_)
    exact j_ev.ret rfl
  · by_cases c : j = i
    · subst c; rw [pk_us, va_up_self]; rfl
    · rw [pk_un c, va_up_ne _ _ c]; exact o2 j hj
  · by_cases c : j = i
    · subst c
      rw [va_up_self] at hm
      cases hm
      rw [pk_us]
    · rw [va_up_ne _ _ c] at hm
      rw [pk_un c]; exact v2 j m hj hm
theorem x_Mo_openT (d : Nat) {i m : Nat} (h : Mo mem fa tp md sd at') (hv : Mv mem s) (hi : i < 8) (hs : s i = some m) : j_ex tb (d + 2) m_Mo_open [.ref 69, .int (nI i)] mem (.inl (some (.int 0))) (j_set mem 69 (moC 2 tp md sd at')) := by
  have h1 : mem.2.2 69 = _ := h
  unfold moC at h1
  obtain ⟨⟨op, o1, o2⟩, sv, v1, v2⟩ := hv
  have e0 : op i = 1 := by rw [o2 i hi, hs]; rfl
  have g75 : (j_set mem 69 (moC 0 tp md sd at')).2.2 75 = some (.inl (8, 8, .inl op)) := o1
  have kf := x_Mo_fail d 2 (Mo_set (mem := mem) 0 tp md sd at')
  rw [st_st] at kf
  have g : (j_set mem 69 (moC 0 tp md sd at')).2.2 69 = some (.inr (11, [.int 0, .int (nI tp), .int (nI md), .int sd, .int at', .ref 70, .ref 71, .ref 72, .ref 73, .ref 74, .ref 75, .ref 76])) := rfl
  refine ⟨e_Mo_open, rfl, Nat.le_of_ble_eq_true rfl, ?_⟩
  repeat (first | refine ev_go rfl (by rfl) ?_ | refine ev_gf rfl (by assumption) (by rfl) (by rfl) ?_)
  refine ev_pf rfl (by assumption) (by rfl) (by rfl) (by rfl) ?_
  refine ev_m (mem' := j_set mem 69 (moC 0 tp md sd at')) rfl ?_
  repeat (first | refine ev_go rfl (by rfl) ?_ | refine ev_gf rfl (by assumption) (by rfl) (by rfl) ?_)
  refine ev_ifF rfl (by exact b_nlt (a := i) (b := 0) (by omega) (by omega) (by omega)) ?_
  repeat (first | refine ev_go rfl (by rfl) ?_ | refine ev_gf rfl (by assumption) (by rfl) (by rfl) ?_)
  refine ev_icT rfl (by exact b_le (a := i) (b := 7) (by omega) (by omega) (by omega)) ?_
  repeat (first | refine ev_go rfl (by rfl) ?_ | refine ev_gf rfl (by assumption) (by rfl) (by rfl) ?_)
  refine ev_albN (i := i) rfl (by assumption) (by rfl) (by omega) (by omega) ?_
  rw [e0]
  repeat (first | refine ev_go rfl (by rfl) ?_ | refine ev_gf rfl (by assumption) (by rfl) (by rfl) ?_)
  refine ev_cv (as := [.int 2]) rfl rfl rfl (by assumption) (by rfl) (by rfl) (kf) ?_
  exact j_ev.ret rfl
theorem x_Mo_closeT (d : Nat) {i : Nat} (h : Mo mem fa tp md sd at') (hv : Mv mem s) (hi : i < 8) (hs : s i = none) : j_ex tb (d + 2) m_Mo_close [.ref 69, .int (nI i)] mem (.inl (some (.int 0))) (j_set mem 69 (moC 2 tp md sd at')) := by
  have h1 : mem.2.2 69 = _ := h
  unfold moC at h1
  obtain ⟨⟨op, o1, o2⟩, sv, v1, v2⟩ := hv
  have e0 : op i = 0 := by rw [o2 i hi, hs]; rfl
  have g75 : (j_set mem 69 (moC 0 tp md sd at')).2.2 75 = some (.inl (8, 8, .inl op)) := o1
  have kf := x_Mo_fail d 2 (Mo_set (mem := mem) 0 tp md sd at')
  rw [st_st] at kf
  have g : (j_set mem 69 (moC 0 tp md sd at')).2.2 69 = some (.inr (11, [.int 0, .int (nI tp), .int (nI md), .int sd, .int at', .ref 70, .ref 71, .ref 72, .ref 73, .ref 74, .ref 75, .ref 76])) := rfl
  refine ⟨e_Mo_close, rfl, Nat.le_of_ble_eq_true rfl, ?_⟩
  repeat (first | refine ev_go rfl (by rfl) ?_ | refine ev_gf rfl (by assumption) (by rfl) (by rfl) ?_)
  refine ev_pf rfl (by assumption) (by rfl) (by rfl) (by rfl) ?_
  refine ev_m (mem' := j_set mem 69 (moC 0 tp md sd at')) rfl ?_
  repeat (first | refine ev_go rfl (by rfl) ?_ | refine ev_gf rfl (by assumption) (by rfl) (by rfl) ?_)
  refine ev_ifF rfl (by exact b_nlt (a := i) (b := 0) (by omega) (by omega) (by omega)) ?_
  repeat (first | refine ev_go rfl (by rfl) ?_ | refine ev_gf rfl (by assumption) (by rfl) (by rfl) ?_)
  refine ev_icT rfl (by exact b_le (a := i) (b := 7) (by omega) (by omega) (by omega)) ?_
  repeat (first | refine ev_go rfl (by rfl) ?_ | refine ev_gf rfl (by assumption) (by rfl) (by rfl) ?_)
  refine ev_albN (i := i) rfl (by assumption) (by rfl) (by omega) (by omega) ?_
  rw [e0]
  repeat (first | refine ev_go rfl (by rfl) ?_ | refine ev_gf rfl (by assumption) (by rfl) (by rfl) ?_)
  refine ev_cv (as := [.int 2]) rfl rfl rfl (by assumption) (by rfl) (by rfl) (kf) ?_
  exact j_ev.ret rfl
theorem x_Mo_close (d : Nat) {i m : Nat} (h : Mo mem fa tp md sd at') (hv : Mv mem s) (hi : i < 8) (hs : s i = some m) : ∃ mem', j_ex tb (d + 2) m_Mo_close [.ref 69, .int (nI i)] mem (.inl (some (.int (nI m)))) mem' ∧ Mo mem' 0 tp md sd at' ∧ Mv mem' (va_up s i none) ∧ mem'.1 = mem.1 ∧ mem'.2.1 = mem.2.1 ∧ ∀ c, c ≠ 69 → c ≠ 75 → mem'.2.2 c = mem.2.2 c := by
  have h1 : mem.2.2 69 = _ := h
  unfold moC at h1
  obtain ⟨⟨op, o1, o2⟩, sv, v1, v2⟩ := hv
  have e0 : op i = 1 := by rw [o2 i hi, hs]; rfl
  have g75 : (j_set mem 69 (moC 0 tp md sd at')).2.2 75 = some (.inl (8, 8, .inl op)) := o1
  have g76 : (j_set (j_set mem 69 (moC 0 tp md sd at')) 75 (.inl (8, 8, .inl (upd op i 0)))).2.2 76 = some (.inl (0, 8, .inl sv)) := v1
  have em := v2 i m hi hs
  refine ⟨j_set (j_set mem 69 (moC 0 tp md sd at')) 75 (.inl (8, 8, .inl (upd op i 0))), ?_, rfl, ⟨⟨upd op i 0, rfl, fun j hj => ?_⟩, sv, v1, fun j m' hj hm => ?_⟩, rfl, rfl, fun c c1 c2 => by rw [st_ne _ _ c2, st_ne _ _ c1]⟩
  · rw [← em]
    refine ⟨e_Mo_close, rfl, Nat.le_of_ble_eq_true rfl, ?_⟩
    repeat (first | refine ev_go rfl (by rfl) ?_ | refine ev_gf rfl (by assumption) (by rfl) (by rfl) ?_)
    refine ev_pf rfl (by assumption) (by rfl) (by rfl) (by rfl) ?_
    refine ev_m (mem' := j_set mem 69 (moC 0 tp md sd at')) rfl ?_
    repeat (first | refine ev_go rfl (by rfl) ?_ | refine ev_gf rfl (by assumption) (by rfl) (by rfl) ?_)
    refine ev_ifF rfl (by exact b_nlt (a := i) (b := 0) (by omega) (by omega) (by omega)) ?_
    repeat (first | refine ev_go rfl (by rfl) ?_ | refine ev_gf rfl (by assumption) (by rfl) (by rfl) ?_)
    refine ev_icT rfl (by exact b_le (a := i) (b := 7) (by omega) (by omega) (by omega)) ?_
    repeat (first | refine ev_go rfl (by rfl) ?_ | refine ev_gf rfl (by assumption) (by rfl) (by rfl) ?_)
    refine ev_albN (i := i) rfl (by assumption) (by rfl) (by omega) (by omega) ?_
    rw [e0]
    repeat (first | refine ev_go rfl (by rfl) ?_ | refine ev_gf rfl (by assumption) (by rfl) (by rfl) ?_)
    refine ev_abN (i := i) rfl (by assumption) (by rfl) (by omega) (by omega) (by omega) ?_
    rw [show j_nb 8 0 = 0 from rfl]
    repeat (first | refine ev_go rfl (by rfl) ?_ | refine ev_gf rfl (by assumption) (by rfl) (by rfl) ?_)
    refine ev_aliN (i := i) rfl (by assumption) (by omega) (by omega) ?_
    exact j_ev.ret rfl
  · by_cases c : j = i
    · subst c; rw [pk_us, va_up_self]; rfl
    · rw [pk_un c, va_up_ne _ _ c]; exact o2 j hj
  · by_cases c : j = i
    · subst c
      rw [va_up_self] at hm
      cases hm
    · rw [va_up_ne _ _ c] at hm
      exact v2 j m' hj hm
end MVIEW
