/-! KEYS AS NUMBERS, AGAINST BYTES ONE BY ONE (own text) -/
theorem byN_i (x : Int32) : byN x = x.toBitVec.toNat % 256 := by
  have h1 := uN_int x.toInt64
  have h2 : x.toInt64.toInt = x.toInt := Int32.toInt_toInt64 x
  have h3 : x.toInt = if 2 * x.toBitVec.toNat < 2 ^ 32 then (x.toBitVec.toNat : Int) else (x.toBitVec.toNat : Int) - (2 ^ 32 : Nat) := BitVec.toInt_eq_toNat_cond _
  have h4 := uN_lt x.toInt64
  have h5 : x.toBitVec.toNat < 2 ^ 32 := x.toBitVec.isLt
  unfold byN
  rw [h2, h3] at h1
  generalize uN x.toInt64 = u at *
  generalize x.toBitVec.toNat = w at *
  split at h1 <;> split at h1 <;> omega
theorem w_255 (x : Int32) : x &&& 255 = nI (byN x) := by
  rw [byN_i]
  exact pk_and x 8 (by decide)
theorem nm_le {g h : Nat → Nat} : ∀ (n : Nat), (∀ j, j < n → g j ≤ h j) → nm g n ≤ nm h n
  | 0, _ => Nat.le_refl _
  | n + 1, H => by
    have h1 := nm_le n (fun j hj => H j (by omega))
    have h2 := H n (by omega)
    show nm g n * 256 + g n ≤ nm h n * 256 + h n
    omega
theorem nm_eq {g h : Nat → Nat} : ∀ (n : Nat), (∀ j, j < n → g j = h j) → nm g n = nm h n
  | 0, _ => rfl
  | n + 1, H => by
    have h1 := nm_eq n (fun j hj => H j (by omega))
    have h2 := H n (by omega)
    show nm g n * 256 + g n = nm h n * 256 + h n
    omega
theorem nm_lt {g h : Nat → Nat} {k : Nat} (hg : ∀ j, g j < 256) (he : ∀ j, j < k → g j = h j) (hk : g k < h k) : ∀ (n : Nat), k < n → nm g n < nm h n
  | 0, H => by omega
  | n + 1, H => by
    show nm g n * 256 + g n < nm h n * 256 + h n
    by_cases c : k = n
    · subst c
      rw [nm_eq k he]
      omega
    · have h1 := nm_lt hg he hk n (by omega)
      have h2 := hg n
      omega
/-- a key, of bytes and a length -/
def ky (b : Nat → Int32) (n : Nat) : Nat := nm (tg b n) 40 * 4096 + n
theorem ky_lt {a b : Nat → Int32} {p q k : Nat} (hp : p ≤ 40) (hq : q ≤ 40) (h1 : k < p) (h2 : k < q) (he : ∀ j, j < k → byN (a j) = byN (b j)) (hk : byN (a k) < byN (b k)) : ky a p < ky b q := by
  have := nm_lt (g := tg a p) (h := tg b q) (k := k) (tg_lt a p) (fun j hj => by rw [tg_in (by omega), tg_in (by omega)]; exact he j hj) (by rw [tg_in h1, tg_in h2]; exact hk) 40 (by omega)
  unfold ky
  omega
theorem ky_pre {a b : Nat → Int32} {p q : Nat} (hp : p ≤ 40) (hq : q ≤ 40) (he : ∀ j, j < p → j < q → byN (a j) = byN (b j)) : (ky a p < ky b q ↔ p < q) ∧ (ky a p = ky b q ↔ p = q) := by
  have le1 : p ≤ q → nm (tg a p) 40 ≤ nm (tg b q) 40 := fun h => nm_le 40 (fun j _ => by
    by_cases c : j < p
    · rw [tg_in c, tg_in (by omega), he j c (by omega)]; exact Nat.le_refl _
    · rw [tg_out (by omega)]; exact Nat.zero_le _)
  have le2 : q ≤ p → nm (tg b q) 40 ≤ nm (tg a p) 40 := fun h => nm_le 40 (fun j _ => by
    by_cases c : j < q
    · rw [tg_in c, tg_in (by omega), he j (by omega) c]; exact Nat.le_refl _
    · rw [tg_out (by omega)]; exact Nat.zero_le _)
  unfold ky
  rcases Nat.lt_trichotomy p q with c | c | c
  · have := le1 (by omega); omega
  · have := le1 (by omega); have := le2 (by omega); omega
  · have := le2 (by omega); omega
/-- the class's key is that of its bytes -/
theorem kS_key {b : Nat → Int32} {n : Nat} {f : Nat → Int64} (hn : n < 4096) (h : kS b n f) : v_key f = ky b n := by
  unfold v_key ky
  rw [h.1, (kS_all hn h).1]
section CMP
variable {mem : j_M} {fa sd at' : Int32} {tp md : Nat}
theorem x_Mo_compareTape (d : Nat) {v n : Nat} {K b Ln : Nat → Int32} {p : Nat} (h : Mo mem fa tp md sd at') (h70 : mem.2.2 70 = some (.inl (2, 60, .inl b))) (h71 : mem.2.2 71 = some (.inl (2, 20000, .inl K))) (h72 : mem.2.2 72 = some (.inl (0, 500, .inl Ln))) (hv : v < 500) (hp : Ln v = nI p) (hp40 : p ≤ 40) (hn : n ≤ 40) :
    ∃ r : Int32, j_ex tb (d + 1) m_Mo_compareTape [.ref 69, .int (nI v), .int (nI n)] mem (.inl (some (.int r))) mem ∧ (r < 0 ↔ ky (fun j => K (40 * v + j)) p < ky b n) ∧ (r = 0 ↔ ky (fun j => K (40 * v + j)) p = ky b n) := by
  have h1 : mem.2.2 69 = _ := h
  unfold moC at h1
  have loop : ∀ (q k : Nat) (x : Option Value), q + k = 40 → (∀ j, j < k → j < p → j < n → byN (K (40 * v + j)) = byN (b j)) → k ≤ p → k ≤ n → ∃ r : Int32, j_ev (d + 1) (j_ex tb (d + 0)) (j_tab q_Mo_compareTape) [] (.inl (some (.int r))) (mem) 2 [some (.ref 69), some (.int (nI v)), some (.int (nI n)), some (.int (nI k)), x] [] mem ∧ (r < 0 ↔ ky (fun j => K (40 * v + j)) p < ky b n) ∧ (r = 0 ↔ ky (fun j => K (40 * v + j)) p = ky b n) := by
    intro q
    have fin : ∀ (k : Nat) (x : Option Value), (p ≤ k ∨ n ≤ k) → k ≤ 40 → (∀ j, j < k → j < p → j < n → byN (K (40 * v + j)) = byN (b j)) → ∃ r : Int32, j_ev (d + 1) (j_ex tb (d + 0)) (j_tab q_Mo_compareTape) [] (.inl (some (.int r))) (mem) 2 [some (.ref 69), some (.int (nI v)), some (.int (nI n)), some (.int (nI k)), x] [] mem ∧ (r < 0 ↔ ky (fun j => K (40 * v + j)) p < ky b n) ∧ (r = 0 ↔ ky (fun j => K (40 * v + j)) p = ky b n) := by
      intro k x hk hk4 he
      have hpre := ky_pre (a := fun j => K (40 * v + j)) (b := b) hp40 hn (fun j h1 h2 => he j (by omega) h1 h2)
      have hs := w_sub_sgn (a := p) (b := n) (by omega) (by omega)
      refine ⟨nI p - nI n, ?_, by rw [hs.1, hpre.1], by rw [hs.2, hpre.2]⟩
      have last : j_ev (d + 1) (j_ex tb (d + 0)) (j_tab q_Mo_compareTape) [] (.inl (some (.int (nI p - nI n)))) (mem) 59 [some (.ref 69), some (.int (nI v)), some (.int (nI n)), some (.int (nI k)), x] [] mem := by
        repeat (first | refine ev_go rfl (by rfl) ?_ | refine ev_gf rfl (by assumption) (by rfl) (by rfl) ?_)
        refine ev_aliN (i := v) rfl (by assumption) (by omega) (by omega) ?_
        rw [hp]
        repeat (first | refine ev_go rfl (by rfl) ?_ | refine ev_gf rfl (by assumption) (by rfl) (by rfl) ?_)
        exact j_ev.ret rfl
      by_cases c : p ≤ k
      · repeat (first | refine ev_go rfl (by rfl) ?_ | refine ev_gf rfl (by assumption) (by rfl) (by rfl) ?_)
        refine ev_aliN (i := v) rfl (by assumption) (by omega) (by omega) ?_
        rw [hp]
        refine ev_icT rfl (by exact b_le (a := p) (b := k) (by omega) (by omega) (by omega)) ?_
        exact last
      · repeat (first | refine ev_go rfl (by rfl) ?_ | refine ev_gf rfl (by assumption) (by rfl) (by rfl) ?_)
        refine ev_aliN (i := v) rfl (by assumption) (by omega) (by omega) ?_
        rw [hp]
        refine ev_icF rfl (by exact b_nle (a := p) (b := k) (by omega) (by omega) (by omega)) ?_
        repeat (first | refine ev_go rfl (by rfl) ?_ | refine ev_gf rfl (by assumption) (by rfl) (by rfl) ?_)
        refine ev_icT rfl (by exact b_le (a := n) (b := k) (by omega) (by omega) (by omega)) ?_
        exact last
    induction q with
    | zero =>
      intro k x hk he g1 g2
      exact fin k x (by omega) (by omega) he
    | succ q ih =>
      intro k x hk he g1 g2
      by_cases cf : p ≤ k ∨ n ≤ k
      · exact fin k x cf (by omega) he
      · have e1 : (40 : Int32) * nI v + nI k = nI (40 * v + k) := by rw [show (40 : Int32) * nI v = nI (40 * v) from pk_mul 40 v, nI_add]
        have l1 := byN_lt (K (40 * v + k))
        have l2 := byN_lt (b k)
        have hs := w_sub_sgn (a := byN (K (40 * v + k))) (b := byN (b k)) (by omega) (by omega)
        have pre : ∀ (o : j_O) (mo : j_M), j_ev (d + 1) (j_ex tb (d + 0)) (j_tab q_Mo_compareTape) [] (o) (mo) 47 [some (.ref 69), some (.int (nI v)), some (.int (nI n)), some (.int (nI k)), some (.int (nI (byN (K (40 * v + k))) - nI (byN (b k))))] [.int (nI (byN (K (40 * v + k))) - nI (byN (b k)))] mem → j_ev (d + 1) (j_ex tb (d + 0)) (j_tab q_Mo_compareTape) [] (o) (mo) 2 [some (.ref 69), some (.int (nI v)), some (.int (nI n)), some (.int (nI k)), x] [] mem := by
          intro o mo kk
          rw [← w_255, ← w_255] at kk
          repeat (first | refine ev_go rfl (by rfl) ?_ | refine ev_gf rfl (by assumption) (by rfl) (by rfl) ?_)
          refine ev_aliN (i := v) rfl (by assumption) (by omega) (by omega) ?_
          rw [hp]
          refine ev_icF rfl (by exact b_nle (a := p) (b := k) (by omega) (by omega) (by omega)) ?_
          repeat (first | refine ev_go rfl (by rfl) ?_ | refine ev_gf rfl (by assumption) (by rfl) (by rfl) ?_)
          refine ev_icF rfl (by exact b_nle (a := n) (b := k) (by omega) (by omega) (by omega)) ?_
          repeat (first | refine ev_go rfl (by rfl) ?_ | refine ev_gf rfl (by assumption) (by rfl) (by rfl) ?_)
          refine ev_s (st' := [.int (nI (40 * v + k)), .ref 71]) (by rw [← e1]) ?_
          refine ev_albN (i := 40 * v + k) rfl (by assumption) (by rfl) (by omega) (by omega) ?_
          repeat (first | refine ev_go rfl (by rfl) ?_ | refine ev_gf rfl (by assumption) (by rfl) (by rfl) ?_)
          refine ev_albN (i := k) rfl (by assumption) (by rfl) (by omega) (by omega) ?_
          repeat (first | exact kk | refine ev_go rfl (by rfl) ?_ | refine ev_gf rfl (by assumption) (by rfl) (by rfl) ?_)
        by_cases ce : byN (K (40 * v + k)) = byN (b k)
        · obtain ⟨r, z1, z2⟩ := ih (k + 1) (some (.int (nI (byN (K (40 * v + k))) - nI (byN (b k))))) (by omega) (fun j h1 h2 h3 => by
            by_cases c : j = k
            · subst c; exact ce
            · exact he j (by omega) h2 h3) (by omega) (by omega)
          refine ⟨r, pre _ _ ?_, z2⟩
          rw [← nI_1 k] at z1
          refine ev_ifT rfl (by exact decide_eq_true (hs.2.mpr ce)) ?_
          repeat (first | exact z1 | refine ev_go rfl (by rfl) ?_ | refine ev_gf rfl (by assumption) (by rfl) (by rfl) ?_)
        · refine ⟨nI (byN (K (40 * v + k))) - nI (byN (b k)), pre _ _ ?_, ?_, ?_⟩
          · refine ev_ifF rfl (by exact decide_eq_false (fun q => ce (hs.2.mp q))) ?_
            repeat (first | refine ev_go rfl (by rfl) ?_ | refine ev_gf rfl (by assumption) (by rfl) (by rfl) ?_)
            exact j_ev.ret rfl
          · rw [hs.1]
            rcases Nat.lt_or_ge (byN (K (40 * v + k))) (byN (b k)) with c | c
            · have := ky_lt (a := fun j => K (40 * v + j)) (b := b) (k := k) hp40 hn (by omega) (by omega) (fun j hj => he j hj (by omega) (by omega)) c
              exact ⟨fun _ => this, fun _ => c⟩
            · have := ky_lt (a := b) (b := fun j => K (40 * v + j)) (k := k) hn hp40 (by omega) (by omega) (fun j hj => (he j hj (by omega) (by omega)).symm) (by show byN (b k) < byN (K (40 * v + k)); omega)
              exact ⟨fun q => by omega, fun q => by omega⟩
          · rw [hs.2]
            rcases Nat.lt_or_ge (byN (K (40 * v + k))) (byN (b k)) with c | c
            · have := ky_lt (a := fun j => K (40 * v + j)) (b := b) (k := k) hp40 hn (by omega) (by omega) (fun j hj => he j hj (by omega) (by omega)) c
              exact ⟨fun q => absurd q ce, fun q => by omega⟩
            · have := ky_lt (a := b) (b := fun j => K (40 * v + j)) (k := k) hn hp40 (by omega) (by omega) (fun j hj => (he j hj (by omega) (by omega)).symm) (by show byN (b k) < byN (K (40 * v + k)); omega)
              exact ⟨fun q => absurd q ce, fun q => by omega⟩
  obtain ⟨r, z1, z2⟩ := loop 40 0 none (by omega) (fun j hj => by omega) (by omega) (by omega)
  refine ⟨r, ?_, z2⟩
  refine ⟨e_Mo_compareTape, rfl, Nat.le_of_ble_eq_true rfl, ?_⟩
  repeat (first | exact z1 | refine ev_go rfl (by rfl) ?_ | refine ev_gf rfl (by assumption) (by rfl) (by rfl) ?_)
end CMP
