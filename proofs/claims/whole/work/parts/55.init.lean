/-! CONSTRUCTORS (own text) -/
def zJ (n : Nat) : j_C := .inl (1, n, .inr (.inl (fun _ => 0)))
def zI (n : Nat) : j_C := .inl (0, n, .inl (fun _ => 0))
def zB (n : Nat) : j_C := .inl (2, n, .inl (fun _ => 0))
def zQ (k n : Nat) : j_C := .inl (k, n, .inr (.inr (.inr (.inr (fun _ => none)))))
section INIT
variable {mem : j_M}
theorem x_Ve_init (d : Nat) {v : Nat} (h : mem.2.2 v = some (.inr (8, [.null]))) (hv : v ≠ mem.1) : j_ex tb (d + 1) m_Ve_init [.ref v] mem (.inl none) (j_set (j_new mem 6 (some (zJ 6))) v (.inr (8, [.ref mem.1]))) := by
  have g : (j_new mem 6 (some (zJ 6))).2.2 v = some (.inr (8, [.null])) := by rw [nw_ne _ _ _ hv]; exact h
  refine ⟨e_Ve_init, rfl, Nat.le_of_ble_eq_true rfl, ?_⟩
  repeat (first | refine ev_go rfl (by rfl) ?_ | refine ev_gf rfl (by assumption) (by rfl) (by rfl) ?_)
  refine ev_pf rfl g (by rfl) (by rfl) (by rfl) ?_
  exact j_ev.ret rfl
theorem x_Tp_init (d : Nat) {v : Nat} (h : mem.2.2 v = some (.inr (1, [.int 0, .null]))) (hv : v ≠ mem.1) : j_ex tb (d + 1) m_Tp_init [.ref v] mem (.inl none) (j_set (j_new mem 60 (some (zB 60))) v (.inr (1, [.int 0, .ref mem.1]))) := by
  have g : (j_new mem 60 (some (zB 60))).2.2 v = some (.inr (1, [.int 0, .null])) := by rw [nw_ne _ _ _ hv]; exact h
  refine ⟨e_Tp_init, rfl, Nat.le_of_ble_eq_true rfl, ?_⟩
  repeat (first | refine ev_go rfl (by rfl) ?_ | refine ev_gf rfl (by assumption) (by rfl) (by rfl) ?_)
  refine ev_pf rfl g (by rfl) (by rfl) (by rfl) ?_
  exact j_ev.ret rfl
theorem x_Ac_init (d : Nat) {v : Nat} : j_ex tb (d + 1) m_Ac_init [.ref v] mem (.inl none) mem := by
  refine ⟨e_Ac_init, rfl, Nat.le_of_ble_eq_true rfl, ?_⟩
  repeat (first | refine ev_go rfl (by rfl) ?_ | refine ev_gf rfl (by assumption) (by rfl) (by rfl) ?_)
  exact j_ev.ret rfl
theorem x_Al_init (d : Nat) {v : Nat} (h : mem.2.2 v = some (.inr (10, [.int 0, .null, .int 0]))) : j_ex tb (d + 2) m_Al_init [.ref v] mem (.inl none) mem := by
  refine ⟨e_Al_init, rfl, Nat.le_of_ble_eq_true rfl, ?_⟩
  repeat (first | refine ev_go rfl (by rfl) ?_ | refine ev_gf rfl (by assumption) (by rfl) (by rfl) ?_)
  refine j_ev.call rfl (x_Ac_init d) ?_
  repeat (first | refine ev_go rfl (by rfl) ?_ | refine ev_gf rfl (by assumption) (by rfl) (by rfl) ?_)
  refine ev_pf rfl (by assumption) (by rfl) (by rfl) (by rfl) ?_
  refine ev_m (mem' := mem) (st_id h) ?_
  exact j_ev.ret rfl
theorem x_AL_init (d : Nat) {v : Nat} (h : mem.2.2 v = some (.inr (10, [.int 0, .null, .int 0]))) : j_ex tb (d + 3) m_AL_init [.ref v] mem (.inl none) (j_set mem v (.inr (10, [.int 0, .ref 2, .int 0]))) := by
  refine ⟨e_AL_init, rfl, Nat.le_of_ble_eq_true rfl, ?_⟩
  repeat (first | refine ev_go rfl (by rfl) ?_ | refine ev_gf rfl (by assumption) (by rfl) (by rfl) ?_)
  refine j_ev.call rfl (x_Al_init d h) ?_
  repeat (first | refine ev_go rfl (by rfl) ?_ | refine ev_gf rfl (by assumption) (by rfl) (by rfl) ?_)
  refine ev_pf rfl (by assumption) (by rfl) (by rfl) (by rfl) ?_
  exact j_ev.ret rfl
theorem x_Ru_init (d : Nat) {v c : Nat} {r : List Value} (hc : c = 4 ∨ c = 5) (h : mem.2.2 v = some (.inr (c, .null :: r))) (hv : v < mem.1) : j_ex tb (d + 2) m_Ru_init [.ref v] mem (.inl none) (j_set (j_set (j_new (j_new mem 1 (some (.inr (8, [.null])))) 6 (some (zJ 6))) mem.1 (.inr (8, [.ref (mem.1 + 1)]))) v (.inr (c, .ref mem.1 :: r))) := by
  generalize hm1 : j_new mem 1 (some (.inr (8, [.null]))) = m1
  have a1 : m1.1 = mem.1 + 1 := by rw [← hm1]; rfl
  have g1 : m1.2.2 mem.1 = some (.inr (8, [.null])) := by rw [← hm1]; exact nw_same _ _ _
  have k := x_Ve_init d (mem := m1) (v := mem.1) g1 (by omega)
  rw [a1] at k
  have g2 : (j_set (j_new m1 6 (some (zJ 6))) mem.1 (.inr (8, [.ref (mem.1 + 1)]))).2.2 v = some (.inr (c, .null :: r)) := by
    rw [st_ne _ _ (by omega), nw_ne _ _ _ (by omega), ← hm1, nw_ne _ _ _ (by omega)]; exact h
  refine ⟨e_Ru_init, rfl, Nat.le_of_ble_eq_true rfl, ?_⟩
  repeat (first | refine ev_go rfl (by rfl) ?_ | refine ev_gf rfl (by assumption) (by rfl) (by rfl) ?_)
  refine ev_m hm1 ?_
  refine j_ev.call rfl (k) ?_
  rcases hc with rfl | rfl
  · refine ev_pf rfl g2 (by rfl) (by rfl) (by rfl) ?_
    exact j_ev.ret rfl
  · refine ev_pf rfl g2 (by rfl) (by rfl) (by rfl) ?_
    exact j_ev.ret rfl
theorem x_Vi_init (d : Nat) {v : Nat} (h : mem.2.2 v = some (.inr (2, [.int 0, .null]))) (hv : v < mem.1) (h4 : 4 ≤ mem.1) : j_ex tb (d + 2) m_Vi_init [.ref v] mem (.inl none) (j_set (j_set (j_new mem 8 (some (zI 8))) v (.inr (2, [.int 0, .ref mem.1]))) mem.1 (.inl (0, 8, .inl (flI (fun _ => 0) 8 (-1))))) := by
  have g : (j_new mem 8 (some (zI 8))).2.2 v = some (.inr (2, [.int 0, .null])) := by rw [nw_ne _ _ _ (by omega)]; exact h
  have g2 : (j_set (j_new mem 8 (some (zI 8))) v (.inr (2, [.int 0, .ref mem.1]))).2.2 v = some (.inr (2, [.int 0, .ref mem.1])) := st_same _ _ _
  have g3 : (j_set (j_new mem 8 (some (zI 8))) v (.inr (2, [.int 0, .ref mem.1]))).2.2 mem.1 = some (.inl (0, 8, .inl (fun _ => 0))) := by rw [st_ne _ _ (by omega)]; exact nw_same _ _ _
  refine ⟨e_Vi_init, rfl, Nat.le_of_ble_eq_true rfl, ?_⟩
  repeat (first | refine ev_go rfl (by rfl) ?_ | refine ev_gf rfl (by assumption) (by rfl) (by rfl) ?_)
  refine ev_pf rfl g (by rfl) (by rfl) (by rfl) ?_
  refine ev_m (mem' := j_set (j_new mem 8 (some (zI 8))) v (.inr (2, [.int 0, .ref mem.1]))) rfl ?_
  repeat (first | refine ev_go rfl (by rfl) ?_ | refine ev_gf rfl (by assumption) (by rfl) (by rfl) ?_)
  refine j_ev.call rfl (x_Ar_fillI d g3 (by omega) (by omega) (-1)) ?_
  exact j_ev.ret rfl
theorem x_Me_init (d : Nat) {v : Nat} (h : mem.2.2 v = some (.inr (4, [.null, .int 0, .null]))) (hv : v < mem.1) : j_ex tb (d + 3) m_Me_init [.ref v] mem (.inl none) (j_set (j_new (j_set (j_set (j_new (j_new mem 1 (some (.inr (8, [.null])))) 6 (some (zJ 6))) mem.1 (.inr (8, [.ref (mem.1 + 1)]))) v (.inr (4, [.ref mem.1, .int 0, .null]))) 3000 (some (zJ 3000))) v (.inr (4, [.ref mem.1, .int 0, .ref (mem.1 + 2)]))) := by
  have k := x_Ru_init d (Or.inl rfl) h hv
  generalize hm : j_set (j_set (j_new (j_new mem 1 (some (.inr (8, [.null])))) 6 (some (zJ 6))) mem.1 (.inr (8, [.ref (mem.1 + 1)]))) v (.inr (4, [.ref mem.1, .int 0, .null])) = m1 at *
  have a1 : m1.1 = mem.1 + 2 := by rw [← hm]; rfl
  have g1 : m1.2.2 v = some (.inr (4, [.ref mem.1, .int 0, .null])) := by rw [← hm]; exact st_same _ _ _
  have g2 : (j_new m1 3000 (some (zJ 3000))).2.2 v = some (.inr (4, [.ref mem.1, .int 0, .null])) := by rw [nw_ne _ _ _ (by omega)]; exact g1
  rw [← a1]
  refine ⟨e_Me_init, rfl, Nat.le_of_ble_eq_true rfl, ?_⟩
  repeat (first | refine ev_go rfl (by rfl) ?_ | refine ev_gf rfl (by assumption) (by rfl) (by rfl) ?_)
  refine j_ev.call rfl (k) ?_
  repeat (first | refine ev_go rfl (by rfl) ?_ | refine ev_gf rfl (by assumption) (by rfl) (by rfl) ?_)
  refine ev_pf rfl g2 (by rfl) (by rfl) (by rfl) ?_
  exact j_ev.ret rfl
theorem x_Lv_init (d : Nat) {v : Nat} (h : mem.2.2 v = some (.inr (5, [.null, .int 0, .null, .null]))) (hv : v < mem.1) : j_ex tb (d + 4) m_Lv_init [.ref v, .ref 9] mem (.inl none)
    (j_set (j_set (j_set (j_new (j_set (j_set (j_new (j_new mem 1 (some (.inr (8, [.null])))) 6 (some (zJ 6))) mem.1 (.inr (8, [.ref (mem.1 + 1)]))) v (.inr (5, [.ref mem.1, .int 0, .null, .null]))) 3 (some (.inr (10, [.int 0, .null, .int 0])))) (mem.1 + 2) (.inr (10, [.int 0, .ref 2, .int 0]))) v (.inr (5, [.ref mem.1, .int 0, .null, .ref (mem.1 + 2)]))) v (.inr (5, [.ref mem.1, .int 0, .ref 9, .ref (mem.1 + 2)]))) := by
  have k := x_Ru_init (d + 1) (Or.inr rfl) h hv
  generalize hm : j_set (j_set (j_new (j_new mem 1 (some (.inr (8, [.null])))) 6 (some (zJ 6))) mem.1 (.inr (8, [.ref (mem.1 + 1)]))) v (.inr (5, [.ref mem.1, .int 0, .null, .null])) = m1 at *
  have a1 : m1.1 = mem.1 + 2 := by rw [← hm]; rfl
  have g1 : m1.2.2 v = some (.inr (5, [.ref mem.1, .int 0, .null, .null])) := by rw [← hm]; exact st_same _ _ _
  rw [← a1]
  generalize hm2 : j_new m1 3 (some (.inr (10, [.int 0, .null, .int 0]))) = m2
  have g2 : m2.2.2 m1.1 = some (.inr (10, [.int 0, .null, .int 0])) := by rw [← hm2]; exact nw_same _ _ _
  have g3 : (j_set m2 m1.1 (.inr (10, [.int 0, .ref 2, .int 0]))).2.2 v = some (.inr (5, [.ref mem.1, .int 0, .null, .null])) := by rw [st_ne _ _ (by omega), ← hm2, nw_ne _ _ _ (by omega)]; exact g1
  refine ⟨e_Lv_init, rfl, Nat.le_of_ble_eq_true rfl, ?_⟩
  repeat (first | refine ev_go rfl (by rfl) ?_ | refine ev_gf rfl (by assumption) (by rfl) (by rfl) ?_)
  refine j_ev.call rfl (k) ?_
  repeat (first | refine ev_go rfl (by rfl) ?_ | refine ev_gf rfl (by assumption) (by rfl) (by rfl) ?_)
  refine ev_m hm2 ?_
  refine j_ev.call rfl (x_AL_init d g2) ?_
  refine ev_pf rfl g3 (by rfl) (by rfl) (by rfl) ?_
  repeat (first | refine ev_go rfl (by rfl) ?_ | refine ev_gf rfl (by assumption) (by rfl) (by rfl) ?_)
  refine ev_pf rfl (st_same _ _ _) (by rfl) (by rfl) (by rfl) ?_
  exact j_ev.ret rfl
end INIT
