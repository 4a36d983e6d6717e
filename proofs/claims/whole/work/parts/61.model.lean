/-! THE REFERENCE: end, open, close (own text) -/
def moC (fa : Int32) (tp md : Nat) (sd at' : Int32) : j_C := .inr (11, [.int fa, .int (nI tp), .int (nI md), .int sd, .int at', .ref 70, .ref 71, .ref 72, .ref 73, .ref 74, .ref 75, .ref 76])
def Mo (mem : j_M) (fa : Int32) (tp md : Nat) (sd at' : Int32) : Prop := mem.2.2 69 = some (moC fa tp md sd at')
/-- which views are open, what they see -/
def Mv (mem : j_M) (s : Nat → Option Nat) : Prop := (∃ op : Nat → Int32, mem.2.2 75 = some (.inl (8, 8, .inl op)) ∧ ∀ j, j < 8 → op j = bI (s j).isSome) ∧ ∃ sv : Nat → Int32, mem.2.2 76 = some (.inl (0, 8, .inl sv)) ∧ ∀ j m, j < 8 → s j = some m → sv j = nI m
section MODEL
variable {mem : j_M} {fa sd at' : Int32} {tp md : Nat} {s : Nat → Option Nat}
theorem x_Mo_thrown (d : Nat) (h : Mo mem fa tp md sd at') : j_ex tb (d + 1) m_Mo_thrown [.ref 69] mem (.inl (some (.int fa))) mem := by
  have h1 : mem.2.2 69 = _ := h
  unfold moC at h1
  refine ⟨e_Mo_thrown, rfl, Nat.le_of_ble_eq_true rfl, ?_⟩
  repeat (first | refine ev_go rfl (by rfl) ?_ | refine ev_gf rfl (by assumption) (by rfl) (by rfl) ?_)
  exact j_ev.ret rfl
theorem x_Mo_fail (d : Nat) (x : Int32) (h : Mo mem fa tp md sd at') : j_ex tb (d + 1) m_Mo_fail [.ref 69, .int x] mem (.inl (some (.int 0))) (j_set mem 69 (moC x tp md sd at')) := by
  have h1 : mem.2.2 69 = _ := h
  unfold moC at h1
  refine ⟨e_Mo_fail, rfl, Nat.le_of_ble_eq_true rfl, ?_⟩
  repeat (first | refine ev_go rfl (by rfl) ?_ | refine ev_gf rfl (by assumption) (by rfl) (by rfl) ?_)
  refine ev_pf rfl (by assumption) (by rfl) (by rfl) (by rfl) ?_
  repeat (first | refine ev_go rfl (by rfl) ?_ | refine ev_gf rfl (by assumption) (by rfl) (by rfl) ?_)
  exact j_ev.ret rfl
theorem x_Mo_keyed (d : Nat) (h : Mo mem fa tp md sd at') (ht : tp ≤ 60) : j_ex tb (d + 1) m_Mo_keyed [.ref 69] mem (.inl (some (.int (if 1 ≤ tp ∧ tp ≤ 40 then 1 else 0)))) mem := by
  have h1 : mem.2.2 69 = _ := h
  unfold moC at h1
  refine ⟨e_Mo_keyed, rfl, Nat.le_of_ble_eq_true rfl, ?_⟩
  repeat (first | refine ev_go rfl (by rfl) ?_ | refine ev_gf rfl (by assumption) (by rfl) (by rfl) ?_)
  by_cases c1 : tp < 1
  · refine ev_icT rfl (by exact b_lt (a := tp) (b := 1) (by omega) (by omega) (by omega)) ?_
    repeat (first | refine ev_go rfl (by rfl) ?_ | refine ev_gf rfl (by assumption) (by rfl) (by rfl) ?_)
    rw [if_neg (by omega)]
    exact j_ev.ret rfl
  · refine ev_icF rfl (by exact b_nlt (a := tp) (b := 1) (by omega) (by omega) (by omega)) ?_
    repeat (first | refine ev_go rfl (by rfl) ?_ | refine ev_gf rfl (by assumption) (by rfl) (by rfl) ?_)
    by_cases c2 : 40 < tp
    · refine ev_icT rfl (by exact b_lt (a := 40) (b := tp) (by omega) (by omega) (by omega)) ?_
      repeat (first | refine ev_go rfl (by rfl) ?_ | refine ev_gf rfl (by assumption) (by rfl) (by rfl) ?_)
      rw [if_neg (by omega)]
      exact j_ev.ret rfl
    · refine ev_icF rfl (by exact b_nlt (a := 40) (b := tp) (by omega) (by omega) (by omega)) ?_
      repeat (first | refine ev_go rfl (by rfl) ?_ | refine ev_gf rfl (by assumption) (by rfl) (by rfl) ?_)
      rw [if_pos (by omega)]
      exact j_ev.ret rfl
theorem Mo_set (fa' : Int32) (tp' md' : Nat) (sd2 at2 : Int32) : Mo (j_set mem 69 (moC fa' tp' md' sd2 at2)) fa' tp' md' sd2 at2 := rfl
theorem x_Mo_end (d : Nat) {n : Nat} (h : Mo mem fa tp md sd at') (ht : tp ≤ 60) (hn : n ≤ tp) : j_ex tb (d + 2) m_Mo_end [.ref 69, .int (nI n)] mem (.inl (some (.int (nI n)))) (j_set mem 69 (moC 0 n md sd at')) := by
  have h1 : mem.2.2 69 = _ := h
  unfold moC at h1
  have g : (j_set mem 69 (moC 0 tp md sd at')).2.2 69 = some (moC 0 tp md sd at') := rfl
  refine ⟨e_Mo_end, rfl, Nat.le_of_ble_eq_true rfl, ?_⟩
  repeat (first | refine ev_go rfl (by rfl) ?_ | refine ev_gf rfl (by assumption) (by rfl) (by rfl) ?_)
  refine ev_pf rfl (by assumption) (by rfl) (by rfl) (by rfl) ?_
  refine ev_m (mem' := j_set mem 69 (moC 0 tp md sd at')) rfl ?_
  repeat (first | refine ev_go rfl (by rfl) ?_ | refine ev_gf rfl (by assumption) (by rfl) (by rfl) ?_)
  refine ev_ifF rfl (by exact b_nlt (a := n) (b := 0) (by omega) (by omega) (by omega)) ?_
  repeat (first | refine ev_go rfl (by rfl) ?_ | refine ev_gf rfl (by assumption) (by rfl) (by rfl) ?_)
  refine ev_icT rfl (by exact b_le (a := n) (b := tp) (by omega) (by omega) (by omega)) ?_
  repeat (first | refine ev_go rfl (by rfl) ?_ | refine ev_gf rfl (by assumption) (by rfl) (by rfl) ?_)
  rw [st_st]
  exact j_ev.ret rfl
theorem x_Mo_endT (d : Nat) {x : Int32} (h : Mo mem fa tp md sd at') (ht : tp ≤ 60) (hx : x < 0 ∨ ∃ n, x = nI n ∧ n < 2 ^ 31 ∧ tp < n) : j_ex tb (d + 2) m_Mo_end [.ref 69, .int x] mem (.inl (some (.int 0))) (j_set mem 69 (moC 1 tp md sd at')) := by
  have h1 : mem.2.2 69 = _ := h
  unfold moC at h1
  have kf := x_Mo_fail d 1 (Mo_set (mem := mem) 0 tp md sd at')
  rw [st_st] at kf
  have g : (j_set mem 69 (moC 0 tp md sd at')).2.2 69 = some (.inr (11, [.int 0, .int (nI tp), .int (nI md), .int sd, .int at', .ref 70, .ref 71, .ref 72, .ref 73, .ref 74, .ref 75, .ref 76])) := rfl
  rcases hx with hx | ⟨n, rfl, hn, hx⟩
  · refine ⟨e_Mo_end, rfl, Nat.le_of_ble_eq_true rfl, ?_⟩
    repeat (first | refine ev_go rfl (by rfl) ?_ | refine ev_gf rfl (by assumption) (by rfl) (by rfl) ?_)
    refine ev_pf rfl (by assumption) (by rfl) (by rfl) (by rfl) ?_
    refine ev_m (mem' := j_set mem 69 (moC 0 tp md sd at')) rfl ?_
    repeat (first | refine ev_go rfl (by rfl) ?_ | refine ev_gf rfl (by assumption) (by rfl) (by rfl) ?_)
    refine ev_ifT rfl (by exact decide_eq_true hx) ?_
    repeat (first | refine ev_go rfl (by rfl) ?_ | refine ev_gf rfl (by assumption) (by rfl) (by rfl) ?_)
    refine ev_cv (as := [.int 1]) rfl rfl rfl (by assumption) (by rfl) (by rfl) (kf) ?_
    exact j_ev.ret rfl
  · refine ⟨e_Mo_end, rfl, Nat.le_of_ble_eq_true rfl, ?_⟩
    repeat (first | refine ev_go rfl (by rfl) ?_ | refine ev_gf rfl (by assumption) (by rfl) (by rfl) ?_)
    refine ev_pf rfl (by assumption) (by rfl) (by rfl) (by rfl) ?_
    refine ev_m (mem' := j_set mem 69 (moC 0 tp md sd at')) rfl ?_
    repeat (first | refine ev_go rfl (by rfl) ?_ | refine ev_gf rfl (by assumption) (by rfl) (by rfl) ?_)
    refine ev_ifF rfl (by exact b_nlt (a := n) (b := 0) (by omega) (by omega) (by omega)) ?_
    repeat (first | refine ev_go rfl (by rfl) ?_ | refine ev_gf rfl (by assumption) (by rfl) (by rfl) ?_)
    refine ev_icF rfl (by exact b_nle (a := n) (b := tp) (by omega) (by omega) (by omega)) ?_
    repeat (first | refine ev_go rfl (by rfl) ?_ | refine ev_gf rfl (by assumption) (by rfl) (by rfl) ?_)
    refine ev_cv (as := [.int 1]) rfl rfl rfl (by assumption) (by rfl) (by rfl) (kf) ?_
    exact j_ev.ret rfl
end MODEL
