/-! WRITER: add, its three ways in (own text) -/
section WADD2
variable {mem mem' : j_M} {k v : Nat} {sm : Int64} {bs : List Nat}
theorem x_Wr_add0 (d : Nat) (ht : ∀ (z : Int32) x3 x4, j_ev (d + 8) (j_ex tb (d + 7)) (j_tab q_Wr_add) [] (.inl none) (mem') 17 [some (.ref 66), some (.ref v), some (.int z), x3, x4] [] mem) : j_ex tb (d + 8) m_Wr_add [.ref 66, .ref v, .int 0] mem (.inl none) mem' := by
  have k0 := ht 0 none none
  refine ⟨e_Wr_add, rfl, Nat.le_of_ble_eq_true rfl, ?_⟩
  repeat (first | exact k0 | refine ev_go rfl (by rfl) ?_ | refine ev_gf rfl (by assumption) (by rfl) (by rfl) ?_)
theorem x_Wr_add1 (d : Nat) (h : Wp mem k sm bs) (hk : k < 32) (ht : ∀ (z : Int32) x3 x4, j_ev (d + 8) (j_ex tb (d + 7)) (j_tab q_Wr_add) [] (.inl none) (mem') 17 [some (.ref 66), some (.ref v), some (.int z), x3, x4] [] mem) : j_ex tb (d + 8) m_Wr_add [.ref 66, .ref v, .int 1] mem (.inl none) mem' := by
  have k0 := ht 1 none none
  have h1 := h.1
  refine ⟨e_Wr_add, rfl, Nat.le_of_ble_eq_true rfl, ?_⟩
  repeat (first | refine ev_go rfl (by rfl) ?_ | refine ev_gf rfl (by assumption) (by rfl) (by rfl) ?_)
  refine ev_icT rfl (by exact b_lt (a := k) (b := 32) (by omega) (by omega) (by omega)) ?_
  exact k0
theorem x_Wr_add2 (d : Nat) {m1 : j_M} (h : Wp mem k sm bs) (hk : 32 ≤ k ∧ k < 2 ^ 31) (hs : j_ex tb (d + 7) m_Wr_seal [.ref 66] mem (.inl none) m1) (ht : ∀ (z : Int32) x3 x4, j_ev (d + 8) (j_ex tb (d + 7)) (j_tab q_Wr_add) [] (.inl none) (mem') 17 [some (.ref 66), some (.ref v), some (.int z), x3, x4] [] m1) : j_ex tb (d + 8) m_Wr_add [.ref 66, .ref v, .int 1] mem (.inl none) mem' := by
  have k0 := ht 1 none none
  have h1 := h.1
  refine ⟨e_Wr_add, rfl, Nat.le_of_ble_eq_true rfl, ?_⟩
  repeat (first | refine ev_go rfl (by rfl) ?_ | refine ev_gf rfl (by assumption) (by rfl) (by rfl) ?_)
  refine ev_icF rfl (by exact b_nlt (a := k) (b := 32) (by omega) (by omega) (by omega)) ?_
  repeat (first | refine ev_go rfl (by rfl) ?_ | refine ev_gf rfl (by assumption) (by rfl) (by rfl) ?_)
  refine ev_cv (as := []) rfl rfl rfl (by assumption) (by rfl) (by rfl) (hs) ?_
  exact k0
end WADD2
