/-! THE LAW: its wrappers (written by a program of ours, /wip/whole/genwrap.py) -/
theorem ev_cvC {d : Nat} {C : Nat → List Value → j_M → j_O → j_M → Prop} {code : Nat → j_S} {hn : List (Nat × Nat × Nat)} {o : j_O} {mo : j_M} {pc : Nat} {lc : j_L} {mem : j_M} {r : List Value} {tb0 : List (Nat × Nat)} {na b c k h' : Nat} {as st : List Value} {fs : List Value} {z : Nat × Nat} {mem' : j_M} (hc : code pc = j_cv tb0 na) (hd : st.drop na = .ref b :: r) (ht : (st.take na).reverse = as) (hm : mem.2.2 b = some (.inr (c, fs))) (hl : tb0.lookup c = some k) (h8 : (Nat.ble (j_sc r) 8 && ((st.take na).length == na)) = true) (hx : C k (.ref b :: as) mem (.inr z) mem') (hh : (pc, z.1, h') ∈ hn) (kk : j_ev d C code hn o mo h' lc [.ref z.2] mem') : j_ev d C code hn o mo pc lc st mem :=
  j_ev.catch (r := r) (by rw [hc]; simp only [j_cv, hd, hm, hl, h8, cond_true, ht]) hx hh kk
section WRAP
variable {mem mem' : j_M} {fs : List Value} {g : Nat → Int64}
theorem wS_feed (d : Nat) {x1 x2 x3 x4 x5 : Int32} {v : Int32} (h4 : mem.2.2 4 = some (.inr (0, fs))) (k : j_ex tb d m_LT_feed [.ref 4, .int x1, .int x2, .int x3, .int x4, .int x5] mem (.inl (some (.int v))) mem') (h77 : mem'.2.2 77 = some (.inl (1, 1, .inr (.inl g)))) : j_ex tb (d + 1) m_La_feed [.ref 4, .int x1, .int x2, .int x3, .int x4, .int x5, .ref 77] mem (.inl (some (.int 0))) (j_set mem' 77 (.inl (1, 1, .inr (.inl (vp_updL g 0 (v.toInt64)))))) := by
  refine ⟨e_La_feed, rfl, Nat.le_of_ble_eq_true rfl, ?_⟩
  repeat (first | refine ev_go rfl (by rfl) ?_ | refine ev_gf rfl (by assumption) (by rfl) (by rfl) ?_)
  refine ev_cv (as := [.int x1, .int x2, .int x3, .int x4, .int x5]) rfl rfl rfl (by assumption) (by rfl) (by rfl) (k) ?_
  repeat (first | refine ev_go rfl (by rfl) ?_ | refine ev_gf rfl (by assumption) (by rfl) (by rfl) ?_)
  refine ev_ajN (i := 0) rfl (by assumption) (by omega) (by omega) (by omega) ?_
  repeat (first | refine ev_go rfl (by rfl) ?_ | refine ev_gf rfl (by assumption) (by rfl) (by rfl) ?_)
  exact j_ev.ret rfl
theorem wC_feed_2 (d : Nat) {x1 x2 x3 x4 x5 : Int32} {a : Nat} (h4 : mem.2.2 4 = some (.inr (0, fs))) (k : j_ex tb d m_LT_feed [.ref 4, .int x1, .int x2, .int x3, .int x4, .int x5] mem (.inr (2, a)) mem') : j_ex tb (d + 1) m_La_feed [.ref 4, .int x1, .int x2, .int x3, .int x4, .int x5, .ref 77] mem (.inl (some (.int (nI 1)))) mem' := by
  refine ⟨e_La_feed, rfl, Nat.le_of_ble_eq_true rfl, ?_⟩
  repeat (first | refine ev_go rfl (by rfl) ?_ | refine ev_gf rfl (by assumption) (by rfl) (by rfl) ?_)
  refine ev_cvC (as := [.int x1, .int x2, .int x3, .int x4, .int x5]) (h' := 19) rfl rfl rfl (by assumption) (by rfl) (by rfl) k (by show (11, 2, 19) ∈ ([(11, 2, 19)] : List (Nat × Nat × Nat)); simp) ?_
  repeat (first | refine ev_go rfl (by rfl) ?_ | refine ev_gf rfl (by assumption) (by rfl) (by rfl) ?_)
  exact j_ev.ret rfl
theorem wS_end (d : Nat) {x1 : Int32} {v : Int32} (h4 : mem.2.2 4 = some (.inr (0, fs))) (k : j_ex tb d m_LT_end [.ref 4, .int x1] mem (.inl (some (.int v))) mem') (h77 : mem'.2.2 77 = some (.inl (1, 1, .inr (.inl g)))) : j_ex tb (d + 1) m_La_end [.ref 4, .int x1, .ref 77] mem (.inl (some (.int 0))) (j_set mem' 77 (.inl (1, 1, .inr (.inl (vp_updL g 0 (v.toInt64)))))) := by
  refine ⟨e_La_end, rfl, Nat.le_of_ble_eq_true rfl, ?_⟩
  repeat (first | refine ev_go rfl (by rfl) ?_ | refine ev_gf rfl (by assumption) (by rfl) (by rfl) ?_)
  refine ev_cv (as := [.int x1]) rfl rfl rfl (by assumption) (by rfl) (by rfl) (k) ?_
  repeat (first | refine ev_go rfl (by rfl) ?_ | refine ev_gf rfl (by assumption) (by rfl) (by rfl) ?_)
  refine ev_ajN (i := 0) rfl (by assumption) (by omega) (by omega) (by omega) ?_
  repeat (first | refine ev_go rfl (by rfl) ?_ | refine ev_gf rfl (by assumption) (by rfl) (by rfl) ?_)
  exact j_ev.ret rfl
theorem wC_end_0 (d : Nat) {x1 : Int32} {a : Nat} (h4 : mem.2.2 4 = some (.inr (0, fs))) (k : j_ex tb d m_LT_end [.ref 4, .int x1] mem (.inr (0, a)) mem') : j_ex tb (d + 1) m_La_end [.ref 4, .int x1, .ref 77] mem (.inl (some (.int (nI 1)))) mem' := by
  refine ⟨e_La_end, rfl, Nat.le_of_ble_eq_true rfl, ?_⟩
  repeat (first | refine ev_go rfl (by rfl) ?_ | refine ev_gf rfl (by assumption) (by rfl) (by rfl) ?_)
  refine ev_cvC (as := [.int x1]) (h' := 12) rfl rfl rfl (by assumption) (by rfl) (by rfl) k (by show (4, 0, 12) ∈ ([(4, 0, 12)] : List (Nat × Nat × Nat)); simp) ?_
  repeat (first | refine ev_go rfl (by rfl) ?_ | refine ev_gf rfl (by assumption) (by rfl) (by rfl) ?_)
  exact j_ev.ret rfl
theorem wS_put (d : Nat) {x1 x2 : Int32} {v : Int32} (h4 : mem.2.2 4 = some (.inr (0, fs))) (k : j_ex tb d m_LT_put [.ref 4, .int x1, .int x2] mem (.inl (some (.int v))) mem') (h77 : mem'.2.2 77 = some (.inl (1, 1, .inr (.inl g)))) : j_ex tb (d + 1) m_La_put [.ref 4, .int x1, .int x2, .ref 77] mem (.inl (some (.int 0))) (j_set mem' 77 (.inl (1, 1, .inr (.inl (vp_updL g 0 (v.toInt64)))))) := by
  refine ⟨e_La_put, rfl, Nat.le_of_ble_eq_true rfl, ?_⟩
  repeat (first | refine ev_go rfl (by rfl) ?_ | refine ev_gf rfl (by assumption) (by rfl) (by rfl) ?_)
  refine ev_cv (as := [.int x1, .int x2]) rfl rfl rfl (by assumption) (by rfl) (by rfl) (k) ?_
  repeat (first | refine ev_go rfl (by rfl) ?_ | refine ev_gf rfl (by assumption) (by rfl) (by rfl) ?_)
  refine ev_ajN (i := 0) rfl (by assumption) (by omega) (by omega) (by omega) ?_
  repeat (first | refine ev_go rfl (by rfl) ?_ | refine ev_gf rfl (by assumption) (by rfl) (by rfl) ?_)
  exact j_ev.ret rfl
theorem wC_put_0 (d : Nat) {x1 x2 : Int32} {a : Nat} (h4 : mem.2.2 4 = some (.inr (0, fs))) (k : j_ex tb d m_LT_put [.ref 4, .int x1, .int x2] mem (.inr (0, a)) mem') : j_ex tb (d + 1) m_La_put [.ref 4, .int x1, .int x2, .ref 77] mem (.inl (some (.int (nI 1)))) mem' := by
  refine ⟨e_La_put, rfl, Nat.le_of_ble_eq_true rfl, ?_⟩
  repeat (first | refine ev_go rfl (by rfl) ?_ | refine ev_gf rfl (by assumption) (by rfl) (by rfl) ?_)
  refine ev_cvC (as := [.int x1, .int x2]) (h' := 13) rfl rfl rfl (by assumption) (by rfl) (by rfl) k (by show (5, 0, 13) ∈ ([(5, 0, 13), (5, 1, 17)] : List (Nat × Nat × Nat)); simp) ?_
  repeat (first | refine ev_go rfl (by rfl) ?_ | refine ev_gf rfl (by assumption) (by rfl) (by rfl) ?_)
  exact j_ev.ret rfl
theorem wC_put_1 (d : Nat) {x1 x2 : Int32} {a : Nat} (h4 : mem.2.2 4 = some (.inr (0, fs))) (k : j_ex tb d m_LT_put [.ref 4, .int x1, .int x2] mem (.inr (1, a)) mem') : j_ex tb (d + 1) m_La_put [.ref 4, .int x1, .int x2, .ref 77] mem (.inl (some (.int (nI 2)))) mem' := by
  refine ⟨e_La_put, rfl, Nat.le_of_ble_eq_true rfl, ?_⟩
  repeat (first | refine ev_go rfl (by rfl) ?_ | refine ev_gf rfl (by assumption) (by rfl) (by rfl) ?_)
  refine ev_cvC (as := [.int x1, .int x2]) (h' := 17) rfl rfl rfl (by assumption) (by rfl) (by rfl) k (by show (5, 1, 17) ∈ ([(5, 0, 13), (5, 1, 17)] : List (Nat × Nat × Nat)); simp) ?_
  repeat (first | refine ev_go rfl (by rfl) ?_ | refine ev_gf rfl (by assumption) (by rfl) (by rfl) ?_)
  exact j_ev.ret rfl
theorem wS_out (d : Nat) {v : Int32} (h4 : mem.2.2 4 = some (.inr (0, fs))) (k : j_ex tb d m_LT_out [.ref 4] mem (.inl (some (.int v))) mem') (h77 : mem'.2.2 77 = some (.inl (1, 1, .inr (.inl g)))) : j_ex tb (d + 1) m_La_out [.ref 4, .ref 77] mem (.inl (some (.int 0))) (j_set mem' 77 (.inl (1, 1, .inr (.inl (vp_updL g 0 (v.toInt64)))))) := by
  refine ⟨e_La_out, rfl, Nat.le_of_ble_eq_true rfl, ?_⟩
  repeat (first | refine ev_go rfl (by rfl) ?_ | refine ev_gf rfl (by assumption) (by rfl) (by rfl) ?_)
  refine ev_cv (as := []) rfl rfl rfl (by assumption) (by rfl) (by rfl) (k) ?_
  repeat (first | refine ev_go rfl (by rfl) ?_ | refine ev_gf rfl (by assumption) (by rfl) (by rfl) ?_)
  refine ev_ajN (i := 0) rfl (by assumption) (by omega) (by omega) (by omega) ?_
  repeat (first | refine ev_go rfl (by rfl) ?_ | refine ev_gf rfl (by assumption) (by rfl) (by rfl) ?_)
  exact j_ev.ret rfl
theorem wC_out_0 (d : Nat) {a : Nat} (h4 : mem.2.2 4 = some (.inr (0, fs))) (k : j_ex tb d m_LT_out [.ref 4] mem (.inr (0, a)) mem') : j_ex tb (d + 1) m_La_out [.ref 4, .ref 77] mem (.inl (some (.int (nI 1)))) mem' := by
  refine ⟨e_La_out, rfl, Nat.le_of_ble_eq_true rfl, ?_⟩
  repeat (first | refine ev_go rfl (by rfl) ?_ | refine ev_gf rfl (by assumption) (by rfl) (by rfl) ?_)
  refine ev_cvC (as := []) (h' := 11) rfl rfl rfl (by assumption) (by rfl) (by rfl) k (by show (3, 0, 11) ∈ ([(3, 0, 11), (3, 1, 14)] : List (Nat × Nat × Nat)); simp) ?_
  repeat (first | refine ev_go rfl (by rfl) ?_ | refine ev_gf rfl (by assumption) (by rfl) (by rfl) ?_)
  exact j_ev.ret rfl
theorem wC_out_1 (d : Nat) {a : Nat} (h4 : mem.2.2 4 = some (.inr (0, fs))) (k : j_ex tb d m_LT_out [.ref 4] mem (.inr (1, a)) mem') : j_ex tb (d + 1) m_La_out [.ref 4, .ref 77] mem (.inl (some (.int (nI 2)))) mem' := by
  refine ⟨e_La_out, rfl, Nat.le_of_ble_eq_true rfl, ?_⟩
  repeat (first | refine ev_go rfl (by rfl) ?_ | refine ev_gf rfl (by assumption) (by rfl) (by rfl) ?_)
  refine ev_cvC (as := []) (h' := 14) rfl rfl rfl (by assumption) (by rfl) (by rfl) k (by show (3, 1, 14) ∈ ([(3, 0, 11), (3, 1, 14)] : List (Nat × Nat × Nat)); simp) ?_
  repeat (first | refine ev_go rfl (by rfl) ?_ | refine ev_gf rfl (by assumption) (by rfl) (by rfl) ?_)
  exact j_ev.ret rfl
theorem wS_open (d : Nat) {x1 : Int32} {v : Int32} (h4 : mem.2.2 4 = some (.inr (0, fs))) (k : j_ex tb d m_LT_open [.ref 4, .int x1] mem (.inl (some (.int v))) mem') (h77 : mem'.2.2 77 = some (.inl (1, 1, .inr (.inl g)))) : j_ex tb (d + 1) m_La_open [.ref 4, .int x1, .ref 77] mem (.inl (some (.int 0))) (j_set mem' 77 (.inl (1, 1, .inr (.inl (vp_updL g 0 (v.toInt64)))))) := by
  refine ⟨e_La_open, rfl, Nat.le_of_ble_eq_true rfl, ?_⟩
  repeat (first | refine ev_go rfl (by rfl) ?_ | refine ev_gf rfl (by assumption) (by rfl) (by rfl) ?_)
  refine ev_cv (as := [.int x1]) rfl rfl rfl (by assumption) (by rfl) (by rfl) (k) ?_
  repeat (first | refine ev_go rfl (by rfl) ?_ | refine ev_gf rfl (by assumption) (by rfl) (by rfl) ?_)
  refine ev_ajN (i := 0) rfl (by assumption) (by omega) (by omega) (by omega) ?_
  repeat (first | refine ev_go rfl (by rfl) ?_ | refine ev_gf rfl (by assumption) (by rfl) (by rfl) ?_)
  exact j_ev.ret rfl
theorem wC_open_0 (d : Nat) {x1 : Int32} {a : Nat} (h4 : mem.2.2 4 = some (.inr (0, fs))) (k : j_ex tb d m_LT_open [.ref 4, .int x1] mem (.inr (0, a)) mem') : j_ex tb (d + 1) m_La_open [.ref 4, .int x1, .ref 77] mem (.inl (some (.int (nI 1)))) mem' := by
  refine ⟨e_La_open, rfl, Nat.le_of_ble_eq_true rfl, ?_⟩
  repeat (first | refine ev_go rfl (by rfl) ?_ | refine ev_gf rfl (by assumption) (by rfl) (by rfl) ?_)
  refine ev_cvC (as := [.int x1]) (h' := 12) rfl rfl rfl (by assumption) (by rfl) (by rfl) k (by show (4, 0, 12) ∈ ([(4, 0, 12), (4, 1, 15)] : List (Nat × Nat × Nat)); simp) ?_
  repeat (first | refine ev_go rfl (by rfl) ?_ | refine ev_gf rfl (by assumption) (by rfl) (by rfl) ?_)
  exact j_ev.ret rfl
theorem wC_open_1 (d : Nat) {x1 : Int32} {a : Nat} (h4 : mem.2.2 4 = some (.inr (0, fs))) (k : j_ex tb d m_LT_open [.ref 4, .int x1] mem (.inr (1, a)) mem') : j_ex tb (d + 1) m_La_open [.ref 4, .int x1, .ref 77] mem (.inl (some (.int (nI 2)))) mem' := by
  refine ⟨e_La_open, rfl, Nat.le_of_ble_eq_true rfl, ?_⟩
  repeat (first | refine ev_go rfl (by rfl) ?_ | refine ev_gf rfl (by assumption) (by rfl) (by rfl) ?_)
  refine ev_cvC (as := [.int x1]) (h' := 15) rfl rfl rfl (by assumption) (by rfl) (by rfl) k (by show (4, 1, 15) ∈ ([(4, 0, 12), (4, 1, 15)] : List (Nat × Nat × Nat)); simp) ?_
  repeat (first | refine ev_go rfl (by rfl) ?_ | refine ev_gf rfl (by assumption) (by rfl) (by rfl) ?_)
  exact j_ev.ret rfl
theorem wS_close (d : Nat) {x1 : Int32} {v : Int32} (h4 : mem.2.2 4 = some (.inr (0, fs))) (k : j_ex tb d m_LT_close [.ref 4, .int x1] mem (.inl (some (.int v))) mem') (h77 : mem'.2.2 77 = some (.inl (1, 1, .inr (.inl g)))) : j_ex tb (d + 1) m_La_close [.ref 4, .int x1, .ref 77] mem (.inl (some (.int 0))) (j_set mem' 77 (.inl (1, 1, .inr (.inl (vp_updL g 0 (v.toInt64)))))) := by
  refine ⟨e_La_close, rfl, Nat.le_of_ble_eq_true rfl, ?_⟩
  repeat (first | refine ev_go rfl (by rfl) ?_ | refine ev_gf rfl (by assumption) (by rfl) (by rfl) ?_)
  refine ev_cv (as := [.int x1]) rfl rfl rfl (by assumption) (by rfl) (by rfl) (k) ?_
  repeat (first | refine ev_go rfl (by rfl) ?_ | refine ev_gf rfl (by assumption) (by rfl) (by rfl) ?_)
  refine ev_ajN (i := 0) rfl (by assumption) (by omega) (by omega) (by omega) ?_
  repeat (first | refine ev_go rfl (by rfl) ?_ | refine ev_gf rfl (by assumption) (by rfl) (by rfl) ?_)
  exact j_ev.ret rfl
theorem wC_close_0 (d : Nat) {x1 : Int32} {a : Nat} (h4 : mem.2.2 4 = some (.inr (0, fs))) (k : j_ex tb d m_LT_close [.ref 4, .int x1] mem (.inr (0, a)) mem') : j_ex tb (d + 1) m_La_close [.ref 4, .int x1, .ref 77] mem (.inl (some (.int (nI 1)))) mem' := by
  refine ⟨e_La_close, rfl, Nat.le_of_ble_eq_true rfl, ?_⟩
  repeat (first | refine ev_go rfl (by rfl) ?_ | refine ev_gf rfl (by assumption) (by rfl) (by rfl) ?_)
  refine ev_cvC (as := [.int x1]) (h' := 12) rfl rfl rfl (by assumption) (by rfl) (by rfl) k (by show (4, 0, 12) ∈ ([(4, 0, 12), (4, 1, 15)] : List (Nat × Nat × Nat)); simp) ?_
  repeat (first | refine ev_go rfl (by rfl) ?_ | refine ev_gf rfl (by assumption) (by rfl) (by rfl) ?_)
  exact j_ev.ret rfl
theorem wC_close_1 (d : Nat) {x1 : Int32} {a : Nat} (h4 : mem.2.2 4 = some (.inr (0, fs))) (k : j_ex tb d m_LT_close [.ref 4, .int x1] mem (.inr (1, a)) mem') : j_ex tb (d + 1) m_La_close [.ref 4, .int x1, .ref 77] mem (.inl (some (.int (nI 2)))) mem' := by
  refine ⟨e_La_close, rfl, Nat.le_of_ble_eq_true rfl, ?_⟩
  repeat (first | refine ev_go rfl (by rfl) ?_ | refine ev_gf rfl (by assumption) (by rfl) (by rfl) ?_)
  refine ev_cvC (as := [.int x1]) (h' := 15) rfl rfl rfl (by assumption) (by rfl) (by rfl) k (by show (4, 1, 15) ∈ ([(4, 0, 12), (4, 1, 15)] : List (Nat × Nat × Nat)); simp) ?_
  repeat (first | refine ev_go rfl (by rfl) ?_ | refine ev_gf rfl (by assumption) (by rfl) (by rfl) ?_)
  exact j_ev.ret rfl
theorem wS_find (d : Nat) {x1 : Int32} {v : Int32} (h4 : mem.2.2 4 = some (.inr (0, fs))) (k : j_ex tb d m_LT_find [.ref 4, .int x1] mem (.inl (some (.int v))) mem') (h77 : mem'.2.2 77 = some (.inl (1, 1, .inr (.inl g)))) : j_ex tb (d + 1) m_La_find [.ref 4, .int x1, .ref 77] mem (.inl (some (.int 0))) (j_set mem' 77 (.inl (1, 1, .inr (.inl (vp_updL g 0 (v.toInt64)))))) := by
  refine ⟨e_La_find, rfl, Nat.le_of_ble_eq_true rfl, ?_⟩
  repeat (first | refine ev_go rfl (by rfl) ?_ | refine ev_gf rfl (by assumption) (by rfl) (by rfl) ?_)
  refine ev_cv (as := [.int x1]) rfl rfl rfl (by assumption) (by rfl) (by rfl) (k) ?_
  repeat (first | refine ev_go rfl (by rfl) ?_ | refine ev_gf rfl (by assumption) (by rfl) (by rfl) ?_)
  refine ev_ajN (i := 0) rfl (by assumption) (by omega) (by omega) (by omega) ?_
  repeat (first | refine ev_go rfl (by rfl) ?_ | refine ev_gf rfl (by assumption) (by rfl) (by rfl) ?_)
  exact j_ev.ret rfl
theorem wC_find_0 (d : Nat) {x1 : Int32} {a : Nat} (h4 : mem.2.2 4 = some (.inr (0, fs))) (k : j_ex tb d m_LT_find [.ref 4, .int x1] mem (.inr (0, a)) mem') : j_ex tb (d + 1) m_La_find [.ref 4, .int x1, .ref 77] mem (.inl (some (.int (nI 1)))) mem' := by
  refine ⟨e_La_find, rfl, Nat.le_of_ble_eq_true rfl, ?_⟩
  repeat (first | refine ev_go rfl (by rfl) ?_ | refine ev_gf rfl (by assumption) (by rfl) (by rfl) ?_)
  refine ev_cvC (as := [.int x1]) (h' := 12) rfl rfl rfl (by assumption) (by rfl) (by rfl) k (by show (4, 0, 12) ∈ ([(4, 0, 12), (4, 1, 15), (4, 3, 18)] : List (Nat × Nat × Nat)); simp) ?_
  repeat (first | refine ev_go rfl (by rfl) ?_ | refine ev_gf rfl (by assumption) (by rfl) (by rfl) ?_)
  exact j_ev.ret rfl
theorem wC_find_1 (d : Nat) {x1 : Int32} {a : Nat} (h4 : mem.2.2 4 = some (.inr (0, fs))) (k : j_ex tb d m_LT_find [.ref 4, .int x1] mem (.inr (1, a)) mem') : j_ex tb (d + 1) m_La_find [.ref 4, .int x1, .ref 77] mem (.inl (some (.int (nI 2)))) mem' := by
  refine ⟨e_La_find, rfl, Nat.le_of_ble_eq_true rfl, ?_⟩
  repeat (first | refine ev_go rfl (by rfl) ?_ | refine ev_gf rfl (by assumption) (by rfl) (by rfl) ?_)
  refine ev_cvC (as := [.int x1]) (h' := 15) rfl rfl rfl (by assumption) (by rfl) (by rfl) k (by show (4, 1, 15) ∈ ([(4, 0, 12), (4, 1, 15), (4, 3, 18)] : List (Nat × Nat × Nat)); simp) ?_
  repeat (first | refine ev_go rfl (by rfl) ?_ | refine ev_gf rfl (by assumption) (by rfl) (by rfl) ?_)
  exact j_ev.ret rfl
theorem wC_find_3 (d : Nat) {x1 : Int32} {a : Nat} (h4 : mem.2.2 4 = some (.inr (0, fs))) (k : j_ex tb d m_LT_find [.ref 4, .int x1] mem (.inr (3, a)) mem') : j_ex tb (d + 1) m_La_find [.ref 4, .int x1, .ref 77] mem (.inl (some (.int (nI 3)))) mem' := by
  refine ⟨e_La_find, rfl, Nat.le_of_ble_eq_true rfl, ?_⟩
  repeat (first | refine ev_go rfl (by rfl) ?_ | refine ev_gf rfl (by assumption) (by rfl) (by rfl) ?_)
  refine ev_cvC (as := [.int x1]) (h' := 18) rfl rfl rfl (by assumption) (by rfl) (by rfl) k (by show (4, 3, 18) ∈ ([(4, 0, 12), (4, 1, 15), (4, 3, 18)] : List (Nat × Nat × Nat)); simp) ?_
  repeat (first | refine ev_go rfl (by rfl) ?_ | refine ev_gf rfl (by assumption) (by rfl) (by rfl) ?_)
  exact j_ev.ret rfl
theorem wS_seek (d : Nat) {x1 x2 : Int32} {v : Int32} (h4 : mem.2.2 4 = some (.inr (0, fs))) (k : j_ex tb d m_LT_seek [.ref 4, .int x1, .int x2] mem (.inl (some (.int v))) mem') (h77 : mem'.2.2 77 = some (.inl (1, 1, .inr (.inl g)))) : j_ex tb (d + 1) m_La_seek [.ref 4, .int x1, .int x2, .ref 77] mem (.inl (some (.int 0))) (j_set mem' 77 (.inl (1, 1, .inr (.inl (vp_updL g 0 (v.toInt64)))))) := by
  refine ⟨e_La_seek, rfl, Nat.le_of_ble_eq_true rfl, ?_⟩
  repeat (first | refine ev_go rfl (by rfl) ?_ | refine ev_gf rfl (by assumption) (by rfl) (by rfl) ?_)
  refine ev_cv (as := [.int x1, .int x2]) rfl rfl rfl (by assumption) (by rfl) (by rfl) (k) ?_
  repeat (first | refine ev_go rfl (by rfl) ?_ | refine ev_gf rfl (by assumption) (by rfl) (by rfl) ?_)
  refine ev_ajN (i := 0) rfl (by assumption) (by omega) (by omega) (by omega) ?_
  repeat (first | refine ev_go rfl (by rfl) ?_ | refine ev_gf rfl (by assumption) (by rfl) (by rfl) ?_)
  exact j_ev.ret rfl
theorem wC_seek_0 (d : Nat) {x1 x2 : Int32} {a : Nat} (h4 : mem.2.2 4 = some (.inr (0, fs))) (k : j_ex tb d m_LT_seek [.ref 4, .int x1, .int x2] mem (.inr (0, a)) mem') : j_ex tb (d + 1) m_La_seek [.ref 4, .int x1, .int x2, .ref 77] mem (.inl (some (.int (nI 1)))) mem' := by
  refine ⟨e_La_seek, rfl, Nat.le_of_ble_eq_true rfl, ?_⟩
  repeat (first | refine ev_go rfl (by rfl) ?_ | refine ev_gf rfl (by assumption) (by rfl) (by rfl) ?_)
  refine ev_cvC (as := [.int x1, .int x2]) (h' := 13) rfl rfl rfl (by assumption) (by rfl) (by rfl) k (by show (5, 0, 13) ∈ ([(5, 0, 13), (5, 1, 17), (5, 3, 21)] : List (Nat × Nat × Nat)); simp) ?_
  repeat (first | refine ev_go rfl (by rfl) ?_ | refine ev_gf rfl (by assumption) (by rfl) (by rfl) ?_)
  exact j_ev.ret rfl
theorem wC_seek_1 (d : Nat) {x1 x2 : Int32} {a : Nat} (h4 : mem.2.2 4 = some (.inr (0, fs))) (k : j_ex tb d m_LT_seek [.ref 4, .int x1, .int x2] mem (.inr (1, a)) mem') : j_ex tb (d + 1) m_La_seek [.ref 4, .int x1, .int x2, .ref 77] mem (.inl (some (.int (nI 2)))) mem' := by
  refine ⟨e_La_seek, rfl, Nat.le_of_ble_eq_true rfl, ?_⟩
  repeat (first | refine ev_go rfl (by rfl) ?_ | refine ev_gf rfl (by assumption) (by rfl) (by rfl) ?_)
  refine ev_cvC (as := [.int x1, .int x2]) (h' := 17) rfl rfl rfl (by assumption) (by rfl) (by rfl) k (by show (5, 1, 17) ∈ ([(5, 0, 13), (5, 1, 17), (5, 3, 21)] : List (Nat × Nat × Nat)); simp) ?_
  repeat (first | refine ev_go rfl (by rfl) ?_ | refine ev_gf rfl (by assumption) (by rfl) (by rfl) ?_)
  exact j_ev.ret rfl
theorem wC_seek_3 (d : Nat) {x1 x2 : Int32} {a : Nat} (h4 : mem.2.2 4 = some (.inr (0, fs))) (k : j_ex tb d m_LT_seek [.ref 4, .int x1, .int x2] mem (.inr (3, a)) mem') : j_ex tb (d + 1) m_La_seek [.ref 4, .int x1, .int x2, .ref 77] mem (.inl (some (.int (nI 3)))) mem' := by
  refine ⟨e_La_seek, rfl, Nat.le_of_ble_eq_true rfl, ?_⟩
  repeat (first | refine ev_go rfl (by rfl) ?_ | refine ev_gf rfl (by assumption) (by rfl) (by rfl) ?_)
  refine ev_cvC (as := [.int x1, .int x2]) (h' := 21) rfl rfl rfl (by assumption) (by rfl) (by rfl) k (by show (5, 3, 21) ∈ ([(5, 0, 13), (5, 1, 17), (5, 3, 21)] : List (Nat × Nat × Nat)); simp) ?_
  repeat (first | refine ev_go rfl (by rfl) ?_ | refine ev_gf rfl (by assumption) (by rfl) (by rfl) ?_)
  exact j_ev.ret rfl
theorem wS_current (d : Nat) {x1 : Int32} {v : Int32} (h4 : mem.2.2 4 = some (.inr (0, fs))) (k : j_ex tb d m_LT_current [.ref 4, .int x1] mem (.inl (some (.int v))) mem') (h77 : mem'.2.2 77 = some (.inl (1, 1, .inr (.inl g)))) : j_ex tb (d + 1) m_La_current [.ref 4, .int x1, .ref 77] mem (.inl (some (.int 0))) (j_set mem' 77 (.inl (1, 1, .inr (.inl (vp_updL g 0 (v.toInt64)))))) := by
  refine ⟨e_La_current, rfl, Nat.le_of_ble_eq_true rfl, ?_⟩
  repeat (first | refine ev_go rfl (by rfl) ?_ | refine ev_gf rfl (by assumption) (by rfl) (by rfl) ?_)
  refine ev_cv (as := [.int x1]) rfl rfl rfl (by assumption) (by rfl) (by rfl) (k) ?_
  repeat (first | refine ev_go rfl (by rfl) ?_ | refine ev_gf rfl (by assumption) (by rfl) (by rfl) ?_)
  refine ev_ajN (i := 0) rfl (by assumption) (by omega) (by omega) (by omega) ?_
  repeat (first | refine ev_go rfl (by rfl) ?_ | refine ev_gf rfl (by assumption) (by rfl) (by rfl) ?_)
  exact j_ev.ret rfl
theorem wC_current_0 (d : Nat) {x1 : Int32} {a : Nat} (h4 : mem.2.2 4 = some (.inr (0, fs))) (k : j_ex tb d m_LT_current [.ref 4, .int x1] mem (.inr (0, a)) mem') : j_ex tb (d + 1) m_La_current [.ref 4, .int x1, .ref 77] mem (.inl (some (.int (nI 1)))) mem' := by
  refine ⟨e_La_current, rfl, Nat.le_of_ble_eq_true rfl, ?_⟩
  repeat (first | refine ev_go rfl (by rfl) ?_ | refine ev_gf rfl (by assumption) (by rfl) (by rfl) ?_)
  refine ev_cvC (as := [.int x1]) (h' := 12) rfl rfl rfl (by assumption) (by rfl) (by rfl) k (by show (4, 0, 12) ∈ ([(4, 0, 12), (4, 3, 15)] : List (Nat × Nat × Nat)); simp) ?_
  repeat (first | refine ev_go rfl (by rfl) ?_ | refine ev_gf rfl (by assumption) (by rfl) (by rfl) ?_)
  exact j_ev.ret rfl
theorem wC_current_3 (d : Nat) {x1 : Int32} {a : Nat} (h4 : mem.2.2 4 = some (.inr (0, fs))) (k : j_ex tb d m_LT_current [.ref 4, .int x1] mem (.inr (3, a)) mem') : j_ex tb (d + 1) m_La_current [.ref 4, .int x1, .ref 77] mem (.inl (some (.int (nI 2)))) mem' := by
  refine ⟨e_La_current, rfl, Nat.le_of_ble_eq_true rfl, ?_⟩
  repeat (first | refine ev_go rfl (by rfl) ?_ | refine ev_gf rfl (by assumption) (by rfl) (by rfl) ?_)
  refine ev_cvC (as := [.int x1]) (h' := 15) rfl rfl rfl (by assumption) (by rfl) (by rfl) k (by show (4, 3, 15) ∈ ([(4, 0, 12), (4, 3, 15)] : List (Nat × Nat × Nat)); simp) ?_
  repeat (first | refine ev_go rfl (by rfl) ?_ | refine ev_gf rfl (by assumption) (by rfl) (by rfl) ?_)
  exact j_ev.ret rfl
theorem wS_word (d : Nat) {x1 : Int32} {v : Int64} (h4 : mem.2.2 4 = some (.inr (0, fs))) (k : j_ex tb d m_LT_word [.ref 4, .int x1] mem (.inl (some (.long v))) mem') (h77 : mem'.2.2 77 = some (.inl (1, 1, .inr (.inl g)))) : j_ex tb (d + 1) m_La_word [.ref 4, .int x1, .ref 77] mem (.inl (some (.int 0))) (j_set mem' 77 (.inl (1, 1, .inr (.inl (vp_updL g 0 (v)))))) := by
  refine ⟨e_La_word, rfl, Nat.le_of_ble_eq_true rfl, ?_⟩
  repeat (first | refine ev_go rfl (by rfl) ?_ | refine ev_gf rfl (by assumption) (by rfl) (by rfl) ?_)
  refine ev_cv (as := [.int x1]) rfl rfl rfl (by assumption) (by rfl) (by rfl) (k) ?_
  refine ev_ajN (i := 0) rfl (by assumption) (by omega) (by omega) (by omega) ?_
  repeat (first | refine ev_go rfl (by rfl) ?_ | refine ev_gf rfl (by assumption) (by rfl) (by rfl) ?_)
  exact j_ev.ret rfl
theorem wC_word_3 (d : Nat) {x1 : Int32} {a : Nat} (h4 : mem.2.2 4 = some (.inr (0, fs))) (k : j_ex tb d m_LT_word [.ref 4, .int x1] mem (.inr (3, a)) mem') : j_ex tb (d + 1) m_La_word [.ref 4, .int x1, .ref 77] mem (.inl (some (.int (nI 1)))) mem' := by
  refine ⟨e_La_word, rfl, Nat.le_of_ble_eq_true rfl, ?_⟩
  repeat (first | refine ev_go rfl (by rfl) ?_ | refine ev_gf rfl (by assumption) (by rfl) (by rfl) ?_)
  refine ev_cvC (as := [.int x1]) (h' := 11) rfl rfl rfl (by assumption) (by rfl) (by rfl) k (by show (4, 3, 11) ∈ ([(4, 3, 11), (4, 2, 14)] : List (Nat × Nat × Nat)); simp) ?_
  repeat (first | refine ev_go rfl (by rfl) ?_ | refine ev_gf rfl (by assumption) (by rfl) (by rfl) ?_)
  exact j_ev.ret rfl
theorem wC_word_2 (d : Nat) {x1 : Int32} {a : Nat} (h4 : mem.2.2 4 = some (.inr (0, fs))) (k : j_ex tb d m_LT_word [.ref 4, .int x1] mem (.inr (2, a)) mem') : j_ex tb (d + 1) m_La_word [.ref 4, .int x1, .ref 77] mem (.inl (some (.int (nI 2)))) mem' := by
  refine ⟨e_La_word, rfl, Nat.le_of_ble_eq_true rfl, ?_⟩
  repeat (first | refine ev_go rfl (by rfl) ?_ | refine ev_gf rfl (by assumption) (by rfl) (by rfl) ?_)
  refine ev_cvC (as := [.int x1]) (h' := 14) rfl rfl rfl (by assumption) (by rfl) (by rfl) k (by show (4, 2, 14) ∈ ([(4, 3, 11), (4, 2, 14)] : List (Nat × Nat × Nat)); simp) ?_
  repeat (first | refine ev_go rfl (by rfl) ?_ | refine ev_gf rfl (by assumption) (by rfl) (by rfl) ?_)
  exact j_ev.ret rfl
end WRAP
