/-! THE REFERENCE: compare (own text) -/
section CMP2
variable {mem : j_M} {fa sd at' : Int32} {tp md : Nat}
theorem x_Mo_compare (d : Nat) {v w n : Nat} {K Ln : Nat → Int32} {p : Nat} (h : Mo mem fa tp md sd at') (h71 : mem.2.2 71 = some (.inl (2, 20000, .inl K))) (h72 : mem.2.2 72 = some (.inl (0, 500, .inl Ln))) (hv : v < 500) (hw : w < 500) (hp : Ln v = nI p) (hq : Ln w = nI n) (hp40 : p ≤ 40) (hn : n ≤ 40) :
    ∃ r : Int32, j_ex tb (d + 1) m_Mo_compare [.ref 69, .int (nI v), .int (nI w)] mem (.inl (some (.int r))) mem ∧ (r < 0 ↔ ky (fun j => K (40 * v + j)) p < ky (fun j => K (40 * w + j)) n) ∧ (r = 0 ↔ ky (fun j => K (40 * v + j)) p = ky (fun j => K (40 * w + j)) n) := by
  have h1 : mem.2.2 69 = _ := h
  unfold moC at h1
  have loop : ∀ (q k : Nat) (x : Option Value), q + k = 40 → (∀ j, j < k → j < p → j < n → byN (K (40 * v + j)) = byN (K (40 * w + j))) → k ≤ p → k ≤ n → ∃ r : Int32, j_ev (d + 1) (j_ex tb (d + 0)) (j_tab q_Mo_compare) [] (.inl (some (.int r))) (mem) 2 [some (.ref 69), some (.int (nI v)), some (.int (nI w)), some (.int (nI k)), x] [] mem ∧ (r < 0 ↔ ky (fun j => K (40 * v + j)) p < ky (fun j => K (40 * w + j)) n) ∧ (r = 0 ↔ ky (fun j => K (40 * v + j)) p = ky (fun j => K (40 * w + j)) n) := by
    intro q
    have fin : ∀ (k : Nat) (x : Option Value), (p ≤ k ∨ n ≤ k) → k ≤ 40 → (∀ j, j < k → j < p → j < n → byN (K (40 * v + j)) = byN (K (40 * w + j))) → ∃ r : Int32, j_ev (d + 1) (j_ex tb (d + 0)) (j_tab q_Mo_compare) [] (.inl (some (.int r))) (mem) 2 [some (.ref 69), some (.int (nI v)), some (.int (nI w)), some (.int (nI k)), x] [] mem ∧ (r < 0 ↔ ky (fun j => K (40 * v + j)) p < ky (fun j => K (40 * w + j)) n) ∧ (r = 0 ↔ ky (fun j => K (40 * v + j)) p = ky (fun j => K (40 * w + j)) n) := by
      intro k x hk hk4 he
      have hpre := ky_pre (a := fun j => K (40 * v + j)) (b := fun j => K (40 * w + j)) hp40 hn (fun j h1 h2 => he j (by omega) h1 h2)
      have hs := w_sub_sgn (a := p) (b := n) (by omega) (by omega)
      refine ⟨nI p - nI n, ?_, by rw [hs.1, hpre.1], by rw [hs.2, hpre.2]⟩
      have last : j_ev (d + 1) (j_ex tb (d + 0)) (j_tab q_Mo_compare) [] (.inl (some (.int (nI p - nI n)))) (mem) 69 [some (.ref 69), some (.int (nI v)), some (.int (nI w)), some (.int (nI k)), x] [] mem := by
        repeat (first | refine ev_go rfl (by rfl) ?_ | refine ev_gf rfl (by assumption) (by rfl) (by rfl) ?_)
        refine ev_aliN (i := v) rfl (by assumption) (by omega) (by omega) ?_
        rw [hp]
        repeat (first | refine ev_go rfl (by rfl) ?_ | refine ev_gf rfl (by assumption) (by rfl) (by rfl) ?_)
        refine ev_aliN (i := w) rfl (by assumption) (by omega) (by omega) ?_
        rw [hq]
        repeat (first | refine ev_go rfl (by rfl) ?_ | refine ev_gf rfl (by assumption) (by rfl) (by rfl) ?_)
        exact j_ev.ret rfl
      by_cases c : p ≤ k
      · repeat (first | refine ev_go rfl (by rfl) ?_ | refine ev_gf rfl (by assumption) (by rfl) (by rfl) ?_)
        refine ev_aliN (i := v) rfl (by assumption) (by omega) (by omega) ?_
        rw [hp]
        refine ev_icT rfl (by exact b_le (a := p) (b := k) (by omega) (by omega) (by omega)) ?_
        exact last
      · repeat (first | refine ev_go rfl (by rfl) ?_ | refine ev_gf rfl (by assumption) (by rfl) (by rfl) ?_)
        refine ev_aliN (i := v) rfl (by assumption) (by omega) (by omega) ?_
        rw [hp]
        refine ev_icF rfl (by exact b_nle (a := p) (b := k) (by omega) (by omega) (by omega)) ?_
        repeat (first | refine ev_go rfl (by rfl) ?_ | refine ev_gf rfl (by assumption) (by rfl) (by rfl) ?_)
        refine ev_aliN (i := w) rfl (by assumption) (by omega) (by omega) ?_
        rw [hq]
        refine ev_icT rfl (by exact b_le (a := n) (b := k) (by omega) (by omega) (by omega)) ?_
        exact last
    induction q with
    | zero =>
      intro k x hk he g1 g2
      exact fin k x (by omega) (by omega) he
    | succ q ih =>
      intro k x hk he g1 g2
      by_cases cf : p ≤ k ∨ n ≤ k
      · exact fin k x cf (by omega) he
      · have e1 : (40 : Int32) * nI v + nI k = nI (40 * v + k) := by rw [show (40 : Int32) * nI v = nI (40 * v) from pk_mul 40 v, nI_add]
        have e2 : (40 : Int32) * nI w + nI k = nI (40 * w + k) := by rw [show (40 : Int32) * nI w = nI (40 * w) from pk_mul 40 w, nI_add]
        have l1 := byN_lt (K (40 * v + k))
        have l2 := byN_lt (K (40 * w + k))
        have hs := w_sub_sgn (a := byN (K (40 * v + k))) (b := byN (K (40 * w + k))) (by omega) (by omega)
        have pre : ∀ (o : j_O) (mo : j_M), j_ev (d + 1) (j_ex tb (d + 0)) (j_tab q_Mo_compare) [] (o) (mo) 57 [some (.ref 69), some (.int (nI v)), some (.int (nI w)), some (.int (nI k)), some (.int (nI (byN (K (40 * v + k))) - nI (byN (K (40 * w + k)))))] [.int (nI (byN (K (40 * v + k))) - nI (byN (K (40 * w + k))))] mem → j_ev (d + 1) (j_ex tb (d + 0)) (j_tab q_Mo_compare) [] (o) (mo) 2 [some (.ref 69), some (.int (nI v)), some (.int (nI w)), some (.int (nI k)), x] [] mem := by
          intro o mo kk
          rw [← w_255, ← w_255] at kk
          repeat (first | refine ev_go rfl (by rfl) ?_ | refine ev_gf rfl (by assumption) (by rfl) (by rfl) ?_)
          refine ev_aliN (i := v) rfl (by assumption) (by omega) (by omega) ?_
          rw [hp]
          refine ev_icF rfl (by exact b_nle (a := p) (b := k) (by omega) (by omega) (by omega)) ?_
          repeat (first | refine ev_go rfl (by rfl) ?_ | refine ev_gf rfl (by assumption) (by rfl) (by rfl) ?_)
          refine ev_aliN (i := w) rfl (by assumption) (by omega) (by omega) ?_
          rw [hq]
          refine ev_icF rfl (by exact b_nle (a := n) (b := k) (by omega) (by omega) (by omega)) ?_
          repeat (first | refine ev_go rfl (by rfl) ?_ | refine ev_gf rfl (by assumption) (by rfl) (by rfl) ?_)
          refine ev_s (st' := [.int (nI (40 * v + k)), .ref 71]) (by rw [← e1]) ?_
          refine ev_albN (i := 40 * v + k) rfl (by assumption) (by rfl) (by omega) (by omega) ?_
          repeat (first | refine ev_go rfl (by rfl) ?_ | refine ev_gf rfl (by assumption) (by rfl) (by rfl) ?_)
          refine ev_s (st' := [.int (nI (40 * w + k)), .ref 71, .int (K (40 * v + k) &&& 255)]) (by rw [← e2]) ?_
          refine ev_albN (i := 40 * w + k) rfl (by assumption) (by rfl) (by omega) (by omega) ?_
          repeat (first | exact kk | refine ev_go rfl (by rfl) ?_ | refine ev_gf rfl (by assumption) (by rfl) (by rfl) ?_)
        by_cases ce : byN (K (40 * v + k)) = byN (K (40 * w + k))
        · obtain ⟨r, z1, z2⟩ := ih (k + 1) (some (.int (nI (byN (K (40 * v + k))) - nI (byN (K (40 * w + k)))))) (by omega) (fun j h1 h2 h3 => by
            by_cases c : j = k
            · subst c; exact ce
            · exact he j (by omega) h2 h3) (by omega) (by omega)
          refine ⟨r, pre _ _ ?_, z2⟩
          rw [← nI_1 k] at z1
          refine ev_ifT rfl (by exact decide_eq_true (hs.2.mpr ce)) ?_
          repeat (first | exact z1 | refine ev_go rfl (by rfl) ?_ | refine ev_gf rfl (by assumption) (by rfl) (by rfl) ?_)
        · refine ⟨nI (byN (K (40 * v + k))) - nI (byN (K (40 * w + k))), pre _ _ ?_, ?_, ?_⟩
          · refine ev_ifF rfl (by exact decide_eq_false (fun q => ce (hs.2.mp q))) ?_
            repeat (first | refine ev_go rfl (by rfl) ?_ | refine ev_gf rfl (by assumption) (by rfl) (by rfl) ?_)
            exact j_ev.ret rfl
          · rw [hs.1]
            rcases Nat.lt_or_ge (byN (K (40 * v + k))) (byN (K (40 * w + k))) with c | c
            · have := ky_lt (a := fun j => K (40 * v + j)) (b := fun j => K (40 * w + j)) (k := k) hp40 hn (by omega) (by omega) (fun j hj => he j hj (by omega) (by omega)) c
              exact ⟨fun _ => this, fun _ => c⟩
            · have := ky_lt (a := fun j => K (40 * w + j)) (b := fun j => K (40 * v + j)) (k := k) hn hp40 (by omega) (by omega) (fun j hj => (he j hj (by omega) (by omega)).symm) (by show byN (K (40 * w + k)) < byN (K (40 * v + k)); omega)
              exact ⟨fun q => by omega, fun q => by omega⟩
          · rw [hs.2]
            rcases Nat.lt_or_ge (byN (K (40 * v + k))) (byN (K (40 * w + k))) with c | c
            · have := ky_lt (a := fun j => K (40 * v + j)) (b := fun j => K (40 * w + j)) (k := k) hp40 hn (by omega) (by omega) (fun j hj => he j hj (by omega) (by omega)) c
              exact ⟨fun q => absurd q ce, fun q => by omega⟩
            · have := ky_lt (a := fun j => K (40 * w + j)) (b := fun j => K (40 * v + j)) (k := k) hn hp40 (by omega) (by omega) (fun j hj => (he j hj (by omega) (by omega)).symm) (by show byN (K (40 * w + k)) < byN (K (40 * v + k)); omega)
              exact ⟨fun q => absurd q ce, fun q => by omega⟩
  obtain ⟨r, z1, z2⟩ := loop 40 0 none (by omega) (fun j hj => by omega) (by omega) (by omega)
  refine ⟨r, ?_, z2⟩
  refine ⟨e_Mo_compare, rfl, Nat.le_of_ble_eq_true rfl, ?_⟩
  repeat (first | exact z1 | refine ev_go rfl (by rfl) ?_ | refine ev_gf rfl (by assumption) (by rfl) (by rfl) ?_)
end CMP2
