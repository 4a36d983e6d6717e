/-! LEVELTABLES: current, show (own text) -/
section SHOW
variable {mem : j_M} {sh lv : Int32} {f ff : Nat → Int64}
def ltC (sh lv : Int32) : j_C := .inr (0, [.int sh, .int lv, .ref 5, .ref 7, .ref 9, .ref 14, .ref 18, .ref 19, .ref 48, .ref 66, .ref 20, .ref 22, .ref 24, .ref 26, .ref 28, .ref 30])
theorem x_LT_current (d : Nat) {w : Nat} (h : LT mem 1 lv) (hv : Ve mem 30 31 f) (hw : w ≤ 3) : j_ex tb (d + 2) m_LT_current [.ref 4, .int (nI w)] mem (.inl (some (.int (nI (if w = 0 then v_pl f else if w = 1 then v_sz f else if w = 2 then v_mom f else v_len f))))) mem := by
  have h1 : mem.2.2 4 = _ := h
  have v1 := hv.1
  have hc : w = 0 ∨ w = 1 ∨ w = 2 ∨ w = 3 := by omega
  rcases hc with rfl | rfl | rfl | rfl
  · refine ⟨e_LT_current, rfl, Nat.le_of_ble_eq_true rfl, ?_⟩
    repeat (first | refine ev_go rfl (by rfl) ?_ | refine ev_gf rfl (by assumption) (by rfl) (by rfl) ?_)
    refine ev_cv (as := []) rfl rfl rfl (by assumption) (by rfl) (by rfl) (x_Ve_place d hv) ?_
    exact j_ev.ret rfl
  · refine ⟨e_LT_current, rfl, Nat.le_of_ble_eq_true rfl, ?_⟩
    repeat (first | refine ev_go rfl (by rfl) ?_ | refine ev_gf rfl (by assumption) (by rfl) (by rfl) ?_)
    refine ev_cv (as := []) rfl rfl rfl (by assumption) (by rfl) (by rfl) (x_Ve_size d hv) ?_
    exact j_ev.ret rfl
  · refine ⟨e_LT_current, rfl, Nat.le_of_ble_eq_true rfl, ?_⟩
    repeat (first | refine ev_go rfl (by rfl) ?_ | refine ev_gf rfl (by assumption) (by rfl) (by rfl) ?_)
    refine ev_cv (as := []) rfl rfl rfl (by assumption) (by rfl) (by rfl) (x_Ve_moment d hv) ?_
    exact j_ev.ret rfl
  · refine ⟨e_LT_current, rfl, Nat.le_of_ble_eq_true rfl, ?_⟩
    repeat (first | refine ev_go rfl (by rfl) ?_ | refine ev_gf rfl (by assumption) (by rfl) (by rfl) ?_)
    refine ev_cv (as := []) rfl rfl rfl (by assumption) (by rfl) (by rfl) (x_Ve_length d hv) ?_
    exact j_ev.ret rfl
theorem x_LT_currentN (d : Nat) (hd : 6 ≤ d) {w : Nat} (h : LT mem 0 lv) (hw : w ≤ 3) : j_ex tb (d + 2) m_LT_current [.ref 4, .int (nI w)] mem (.inr (3, mem.1)) (thr mem) := by
  have h1 : mem.2.2 4 = _ := h
  refine ⟨e_LT_current, rfl, Nat.le_of_ble_eq_true rfl, ?_⟩
  repeat (first | refine ev_go rfl (by rfl) ?_ | refine ev_gf rfl (by assumption) (by rfl) (by rfl) ?_)
  refine ev_ifF rfl (by exact b_nlt (a := w) (b := 0) (by omega) (by omega) (by omega)) ?_
  repeat (first | refine ev_go rfl (by rfl) ?_ | refine ev_gf rfl (by assumption) (by rfl) (by rfl) ?_)
  refine ev_icT rfl (by exact b_le (a := w) (b := 3) (by omega) (by omega) (by omega)) ?_
  repeat (first | refine ev_go rfl (by rfl) ?_ | refine ev_gf rfl (by assumption) (by rfl) (by rfl) ?_)
  exact j_ev.throw rfl (by omega)
theorem x_LT_currentR (d : Nat) (hd : 6 ≤ d) {x : Int32} (hx : x < 0 ∨ nI 4 ≤ x) : j_ex tb (d + 2) m_LT_current [.ref 4, .int x] mem (.inr (0, mem.1)) (thr mem) := by
  by_cases c : x < 0
  · refine ⟨e_LT_current, rfl, Nat.le_of_ble_eq_true rfl, ?_⟩
    repeat (first | refine ev_go rfl (by rfl) ?_ | refine ev_gf rfl (by assumption) (by rfl) (by rfl) ?_)
    refine ev_ifT rfl (by exact decide_eq_true c) ?_
    exact j_ev.throw rfl (by omega)
  · have hx : nI 4 ≤ x := hx.resolve_left c
    refine ⟨e_LT_current, rfl, Nat.le_of_ble_eq_true rfl, ?_⟩
    repeat (first | refine ev_go rfl (by rfl) ?_ | refine ev_gf rfl (by assumption) (by rfl) (by rfl) ?_)
    refine ev_ifF rfl (by exact decide_eq_false c) ?_
    repeat (first | refine ev_go rfl (by rfl) ?_ | refine ev_gf rfl (by assumption) (by rfl) (by rfl) ?_)
    refine ev_icF rfl (by exact decide_eq_false (fun q => by
      rw [Int32.le_iff_toInt_le] at q hx
      have e1 : (3 : Int32).toInt = 3 := rfl
      have e2 : (nI 4).toInt = 4 := rfl
      omega)) ?_
    exact j_ev.throw rfl (by omega)
theorem x_LT_show (d : Nat) (h : LT mem sh lv) (hf : Ve mem 24 25 ff) (hv : Ve mem 30 31 f) : ∃ f', sw f' ff ∧ j_ex tb (d + 2) m_LT_show [.ref 4, .int 1] mem (.inl (some (.int (nI (v_pl ff))))) (j_set (j_set mem 4 (ltC 1 lv)) 31 (vW f')) := by
  have h1 : mem.2.2 4 = _ := h
  have swn : sw (va_cpy ff f 0 0 6) ff := fun j hj => v_cpy hj
  refine ⟨va_cpy ff f 0 0 6, swn, ?_⟩
  have hf2 : Ve (j_set mem 4 (ltC 1 lv)) 24 25 ff := hf
  have hv2 : Ve (j_set mem 4 (ltC 1 lv)) 30 31 f := hv
  have kc := x_Ve_copy d hv2 hf2 (by omega) (by omega)
  change j_ex tb (d + 1) m_Ve_copy [.ref 30, .ref 24] (j_set mem 4 (ltC 1 lv)) (.inl none) (j_set (j_set mem 4 (ltC 1 lv)) 31 (vW (va_cpy ff f 0 0 6))) at kc
  generalize va_cpy ff f 0 0 6 = f' at *
  have hv3 : Ve (j_set (j_set mem 4 (ltC 1 lv)) 31 (vW f')) 30 31 f' := ⟨hv.1, rfl⟩
  have kp := x_Ve_place d hv3
  have ep : v_pl f' = v_pl ff := by unfold v_pl; rw [swn 5 (by omega)]
  rw [ep] at kp
  have g24 := hf2.1
  have g30 := hv2.1
  have g31 := hv3.1
  refine ⟨e_LT_show, rfl, Nat.le_of_ble_eq_true rfl, ?_⟩
  repeat (first | refine ev_go rfl (by rfl) ?_ | refine ev_gf rfl (by assumption) (by rfl) (by rfl) ?_)
  refine ev_pf rfl (by assumption) (by rfl) (by rfl) (by rfl) ?_
  refine ev_m (mem' := j_set mem 4 (ltC 1 lv)) rfl ?_
  repeat (first | refine ev_go rfl (by rfl) ?_ | refine ev_gf rfl (by assumption) (by rfl) (by rfl) ?_)
  refine ev_cv (as := [.ref 24]) rfl rfl rfl (by assumption) (by rfl) (by rfl) (kc) ?_
  repeat (first | refine ev_go rfl (by rfl) ?_ | refine ev_gf rfl (by assumption) (by rfl) (by rfl) ?_)
  refine ev_cv (as := []) rfl rfl rfl (by assumption) (by rfl) (by rfl) (kp) ?_
  exact j_ev.ret rfl
theorem x_LT_showN (d : Nat) (hd : 6 ≤ d) (h : LT mem sh lv) : j_ex tb (d + 2) m_LT_show [.ref 4, .int 0] mem (.inr (3, mem.1)) (thr (j_set mem 4 (ltC 0 lv))) := by
  have h1 : mem.2.2 4 = _ := h
  refine ⟨e_LT_show, rfl, Nat.le_of_ble_eq_true rfl, ?_⟩
  repeat (first | refine ev_go rfl (by rfl) ?_ | refine ev_gf rfl (by assumption) (by rfl) (by rfl) ?_)
  refine ev_pf rfl (by assumption) (by rfl) (by rfl) (by rfl) ?_
  refine ev_m (mem' := j_set mem 4 (ltC 0 lv)) rfl ?_
  repeat (first | refine ev_go rfl (by rfl) ?_ | refine ev_gf rfl (by assumption) (by rfl) (by rfl) ?_)
  exact j_ev.throw (z := 3) (mem := j_set mem 4 (ltC 0 lv)) rfl (by omega)
end SHOW
