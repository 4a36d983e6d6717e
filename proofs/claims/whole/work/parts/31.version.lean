/-! VERSION'S METHODS (own text) -/
theorem x_Ve_words (d : Nat) {mem : j_M} {v w : Nat} (hv : mem.2.2 v = some (.inr (8, [.ref w]))) : j_ex tb (d + 1) m_Ve_words [.ref v] mem (.inl (some (.ref w))) mem := by
  refine ⟨e_Ve_words, rfl, Nat.le_of_ble_eq_true rfl, ?_⟩
  refine j_ev.go rfl ?_
  refine ev_gf rfl hv rfl rfl ?_
  exact j_ev.ret rfl
theorem x_Ve_moment (d : Nat) {mem : j_M} {v w : Nat} {f : Nat → Int64} (hv : mem.2.2 v = some (.inr (8, [.ref w]))) (hw : mem.2.2 w = some (.inl (1, 6, .inr (.inl f)))) : j_ex tb (d + 1) m_Ve_moment [.ref v] mem (.inl (some (.int ((((f 5).toUInt64 >>> ((42 : Int32).toInt64.toUInt64 &&& Int64.toUInt64 63)).toInt64).toInt32 &&& 1023)))) mem := by
  refine ⟨e_Ve_moment, rfl, Nat.le_of_ble_eq_true rfl, ?_⟩
  refine j_ev.go rfl ?_
  refine ev_gf rfl hv rfl rfl ?_
  refine j_ev.go rfl ?_
  refine ev_alj rfl hw rfl ?_
  refine j_ev.go rfl ?_
  refine j_ev.go rfl ?_
  refine j_ev.go rfl ?_
  refine j_ev.go rfl ?_
  refine j_ev.go rfl ?_
  exact j_ev.ret rfl
