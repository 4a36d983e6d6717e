/-! LEVELTABLES: word (own text) -/
section WORD
variable {mem : j_M} {lv : Int32} {f : Nat → Int64}
theorem x_LT_word (d : Nat) {i : Nat} (h : LT mem 1 lv) (hv : Ve mem 30 31 f) (hi : i < v_len f) : j_ex tb (d + 3) m_LT_word [.ref 4, .int (nI i)] mem (.inl (some (.long (lN (e8 f i 8))))) mem := by
  have h1 : mem.2.2 4 = _ := h
  have v1 := hv.1
  have hl := v_len_lt f
  refine ⟨e_LT_word, rfl, Nat.le_of_ble_eq_true rfl, ?_⟩
  repeat (first | refine ev_go rfl (by rfl) ?_ | refine ev_gf rfl (by assumption) (by rfl) (by rfl) ?_)
  refine ev_ifF rfl (by exact b_nlt (a := i) (b := 0) (by omega) (by omega) (by omega)) ?_
  repeat (first | refine ev_go rfl (by rfl) ?_ | refine ev_gf rfl (by assumption) (by rfl) (by rfl) ?_)
  refine ev_cv (as := []) rfl rfl rfl (by assumption) (by rfl) (by rfl) (x_Ve_length (d + 1) hv) ?_
  refine ev_icT rfl (by exact b_lt (a := i) (b := v_len f) (by omega) (by omega) (by omega)) ?_
  repeat (first | refine ev_go rfl (by rfl) ?_ | refine ev_gf rfl (by assumption) (by rfl) (by rfl) ?_)
  refine ev_cv (as := [.int (nI i)]) rfl rfl rfl (by assumption) (by rfl) (by rfl) (x_Ve_eightBytes d hv (by omega)) ?_
  exact j_ev.ret rfl
theorem x_LT_wordN (d : Nat) (hd : 6 ≤ d) {x : Int32} (h : LT mem 0 lv) : j_ex tb (d + 3) m_LT_word [.ref 4, .int x] mem (.inr (3, mem.1)) (thr mem) := by
  have h1 : mem.2.2 4 = _ := h
  refine ⟨e_LT_word, rfl, Nat.le_of_ble_eq_true rfl, ?_⟩
  repeat (first | refine ev_go rfl (by rfl) ?_ | refine ev_gf rfl (by assumption) (by rfl) (by rfl) ?_)
  exact j_ev.throw rfl (by omega)
theorem x_LT_wordT (d : Nat) (hd : 6 ≤ d) {x : Int32} (h : LT mem 1 lv) (hv : Ve mem 30 31 f) (hx : x < 0 ∨ ∃ n, x = nI n ∧ n < 2 ^ 31 ∧ v_len f ≤ n) : j_ex tb (d + 3) m_LT_word [.ref 4, .int x] mem (.inr (2, mem.1)) (thr mem) := by
  have h1 : mem.2.2 4 = _ := h
  have v1 := hv.1
  have hl := v_len_lt f
  rcases hx with hx | ⟨n, rfl, hn, hx⟩
  · refine ⟨e_LT_word, rfl, Nat.le_of_ble_eq_true rfl, ?_⟩
    repeat (first | refine ev_go rfl (by rfl) ?_ | refine ev_gf rfl (by assumption) (by rfl) (by rfl) ?_)
    refine ev_ifT rfl (by exact decide_eq_true hx) ?_
    exact j_ev.throw rfl (by omega)
  · refine ⟨e_LT_word, rfl, Nat.le_of_ble_eq_true rfl, ?_⟩
    repeat (first | refine ev_go rfl (by rfl) ?_ | refine ev_gf rfl (by assumption) (by rfl) (by rfl) ?_)
    refine ev_ifF rfl (by exact b_nlt (a := n) (b := 0) (by omega) (by omega) (by omega)) ?_
    repeat (first | refine ev_go rfl (by rfl) ?_ | refine ev_gf rfl (by assumption) (by rfl) (by rfl) ?_)
    refine ev_cv (as := []) rfl rfl rfl (by assumption) (by rfl) (by rfl) (x_Ve_length (d + 1) hv) ?_
    refine ev_icF rfl (by exact b_nlt (a := n) (b := v_len f) (by omega) (by omega) (by omega)) ?_
    exact j_ev.throw rfl (by omega)
end WORD
