/-! VERSION: what its six words say, and its methods (own text) -/
def v_num (f : Nat → Int64) : Nat := (((uN (f 0) * 2 ^ 64 + uN (f 1)) * 2 ^ 64 + uN (f 2)) * 2 ^ 64 + uN (f 3)) * 2 ^ 64 + uN (f 4)
def v_len (f : Nat → Int64) : Nat := uN (f 5) / 2 ^ 52
def v_mom (f : Nat → Int64) : Nat := uN (f 5) / 2 ^ 42 % 1024
def v_th (f : Nat → Int64) : Nat := uN (f 5) / 2 ^ 41 % 2
def v_sz (f : Nat → Int64) : Nat := uN (f 5) / 2 ^ 31 % 1024
def v_pl (f : Nat → Int64) : Nat := uN (f 5) % 2 ^ 31
def v_key (f : Nat → Int64) : Nat := v_num f * 4096 + v_len f
def v_ord (f : Nat → Int64) : Nat := v_key f * 1024 + v_mom f
/-- a version at v, its words at w -/
def Ve (mem : j_M) (v w : Nat) (f : Nat → Int64) : Prop := mem.2.2 v = some (.inr (8, [.ref w])) ∧ mem.2.2 w = some (.inl (1, 6, .inr (.inl f)))
theorem v_len_lt (f : Nat → Int64) : v_len f < 4096 := by
  have := uN_lt' (f 5)
  unfold v_len
  omega
theorem x_Ve_words (d : Nat) {mem : j_M} {v w : Nat} {f : Nat → Int64} (h : Ve mem v w f) : j_ex tb (d + 1) m_Ve_words [.ref v] mem (.inl (some (.ref w))) mem := by
  refine ⟨e_Ve_words, rfl, Nat.le_of_ble_eq_true rfl, ?_⟩
  refine j_ev.go rfl ?_
  refine ev_gf rfl h.1 rfl rfl ?_
  exact j_ev.ret rfl
theorem x_Ve_length (d : Nat) {mem : j_M} {v w : Nat} {f : Nat → Int64} (h : Ve mem v w f) : j_ex tb (d + 1) m_Ve_length [.ref v] mem (.inl (some (.int (nI (v_len f))))) mem := by
  have e : ((f 5).toUInt64 >>> ((52 : Int32).toInt64.toUInt64 &&& Int64.toUInt64 63)).toInt64.toInt32 = nI (v_len f) := by
    have := w_shr (f 5) (k := 52) (by omega)
    rw [show ((52 : Int32).toInt64.toUInt64 &&& Int64.toUInt64 63) = ((nI 52).toInt64.toUInt64 &&& Int64.toUInt64 63) from rfl, this, lN_i]
    rfl
  rw [← e]
  refine ⟨e_Ve_length, rfl, Nat.le_of_ble_eq_true rfl, ?_⟩
  refine j_ev.go rfl ?_
  refine ev_gf rfl h.1 rfl rfl ?_
  refine j_ev.go rfl ?_
  refine ev_alj rfl h.2 rfl ?_
  refine j_ev.go rfl ?_
  refine j_ev.go rfl ?_
  refine j_ev.go rfl ?_
  exact j_ev.ret rfl
theorem w_and10 {n : Nat} (h : n < 2 ^ 32) : nI n &&& 1023 = nI (n % 1024) := pk_andN h 10 (by decide)
theorem x_Ve_moment (d : Nat) {mem : j_M} {v w : Nat} {f : Nat → Int64} (h : Ve mem v w f) : j_ex tb (d + 1) m_Ve_moment [.ref v] mem (.inl (some (.int (nI (v_mom f))))) mem := by
  have e : ((f 5).toUInt64 >>> ((42 : Int32).toInt64.toUInt64 &&& Int64.toUInt64 63)).toInt64.toInt32 &&& 1023 = nI (v_mom f) := by
    have := w_shr (f 5) (k := 42) (by omega)
    rw [show ((42 : Int32).toInt64.toUInt64 &&& Int64.toUInt64 63) = ((nI 42).toInt64.toUInt64 &&& Int64.toUInt64 63) from rfl, this, lN_i, w_and10]
    · rfl
    · have := uN_lt' (f 5)
      omega
  rw [← e]
  refine ⟨e_Ve_moment, rfl, Nat.le_of_ble_eq_true rfl, ?_⟩
  refine j_ev.go rfl ?_
  refine ev_gf rfl h.1 rfl rfl ?_
  refine j_ev.go rfl ?_
  refine ev_alj rfl h.2 rfl ?_
  repeat refine j_ev.go rfl ?_
  exact j_ev.ret rfl
