/-! MEMORY (own text) -/
theorem j_cpk_ok {sp dp c n0 n1 a b : Nat} {r : List Value} (h1 : sp < 2 ^ 31) (h2 : dp < 2 ^ 31) (h3 : c < 2 ^ 31) (h4 : sp + c ≤ n0) (h5 : dp + c ≤ n1) (h6 : 4 ≤ a) (h7 : 4 ≤ b) (h8 : j_sc r ≤ 8) : j_cpk (nI sp) (nI dp) (nI c) n0 n1 a b r = true := by
  unfold j_cpk
  rw [nI_clamp h1, nI_clamp h2, nI_clamp h3, decide_eq_false (nI_pos h1), decide_eq_false (nI_pos h2), decide_eq_false (nI_pos h3), Nat.ble_eq.mpr h4, Nat.ble_eq.mpr h5, Nat.ble_eq.mpr h6, Nat.ble_eq.mpr h7, Nat.ble_eq.mpr h8]
  rfl
section EVC
variable {d : Nat} {C : Nat → List Value → j_M → j_O → j_M → Prop} {code : Nat → j_S} {hn : List (Nat × Nat × Nat)} {o : j_O} {mo : j_M} {pc : Nat} {lc : j_L} {mem : j_M} {r : List Value}
theorem ev_cplN {n a b n0 n1 c dp sp : Nat} {f g : Nat → Int64} (hc : code pc = j_cpl n) (hm0 : mem.2.2 a = some (.inl (1, n0, .inr (.inl f)))) (hm1 : mem.2.2 b = some (.inl (1, n1, .inr (.inl g)))) (h1 : sp < 2 ^ 31) (h2 : dp < 2 ^ 31) (h3 : c < 2 ^ 31) (h4 : sp + c ≤ n0) (h5 : dp + c ≤ n1) (h6 : 4 ≤ a) (h7 : 4 ≤ b) (h8 : j_sc r ≤ 8) (kk : j_ev d C code hn o mo n lc r (j_set mem b (.inl (1, n1, .inr (.inl (va_cpy f g sp dp c)))))) : j_ev d C code hn o mo pc lc (.int (nI c) :: .int (nI dp) :: .ref b :: .int (nI sp) :: .ref a :: r) mem :=
  ev_cpl hc hm0 hm1 (j_cpk_ok h1 h2 h3 h4 h5 h6 h7 h8) (by rw [nI_clamp h1, nI_clamp h2, nI_clamp h3]; exact kk)
theorem ev_cpqN {n a b n0 n1 c dp sp : Nat} {f g : Nat → Option Nat} (hc : code pc = j_cpq n) (hm0 : mem.2.2 a = some (.inl (6, n0, .inr (.inr (.inr (.inr f)))))) (hm1 : mem.2.2 b = some (.inl (6, n1, .inr (.inr (.inr (.inr g)))))) (h1 : sp < 2 ^ 31) (h2 : dp < 2 ^ 31) (h3 : c < 2 ^ 31) (h4 : sp + c ≤ n0) (h5 : dp + c ≤ n1) (h6 : 4 ≤ a) (h7 : 4 ≤ b) (h8 : j_sc r ≤ 8) (h9 : j_allq mem f sp c = true) (kk : j_ev d C code hn o mo n lc r (j_set mem b (.inl (6, n1, .inr (.inr (.inr (.inr (va_cpy f g sp dp c)))))))) : j_ev d C code hn o mo pc lc (.int (nI c) :: .int (nI dp) :: .ref b :: .int (nI sp) :: .ref a :: r) mem :=
  ev_cpq hc hm0 hm1 (j_cpk_ok h1 h2 h3 h4 h5 h6 h7 h8) (by rw [nI_clamp h1, nI_clamp h3]; exact h9) (by rw [nI_clamp h1, nI_clamp h2, nI_clamp h3]; exact kk)
/-- another value on top of the stack, another memory, that are the same -/
theorem ev_vi {x y : Int32} (h : x = y) (kk : j_ev d C code hn o mo pc lc (.int y :: r) mem) : j_ev d C code hn o mo pc lc (.int x :: r) mem := by rw [h]; exact kk
theorem ev_m {mem' : j_M} {st : List Value} (h : mem = mem') (kk : j_ev d C code hn o mo pc lc st mem') : j_ev d C code hn o mo pc lc st mem := by rw [h]; exact kk
theorem ev_s {st st' : List Value} (h : st = st') (kk : j_ev d C code hn o mo pc lc st' mem) : j_ev d C code hn o mo pc lc st mem := by rw [h]; exact kk
theorem ev_l {st : List Value} {lc' : j_L} (h : lc = lc') (kk : j_ev d C code hn o mo pc lc' st mem) : j_ev d C code hn o mo pc lc st mem := by rw [h]; exact kk
end EVC
/-- memory: how many versions, the words of its rows, its middle version -/
def Mm (mem : j_M) (n : Nat) (R : Nat → Int64) (fm : Nat → Int64) : Prop := mem.2.2 14 = some (.inr (4, [.ref 15, .int (nI n), .ref 17])) ∧ Ve mem 15 16 fm ∧ mem.2.2 17 = some (.inl (1, 3000, .inr (.inl R)))
def row (R : Nat → Int64) (i : Nat) : Nat → Int64 := fun j => R (i * 6 + j)
theorem x_Me_count (d : Nat) {mem : j_M} {n : Nat} {R fm : Nat → Int64} (h : Mm mem n R fm) : j_ex tb (d + 1) m_Me_count [.ref 14] mem (.inl (some (.int (nI n)))) mem := by
  have h1 := h.1
  refine ⟨e_Me_count, rfl, Nat.le_of_ble_eq_true rfl, ?_⟩
  repeat (first | refine ev_go rfl (by rfl) ?_ | refine ev_gf rfl (by assumption) (by rfl) (by rfl) ?_)
  exact j_ev.ret rfl
theorem x_Me_clear (d : Nat) {mem : j_M} {n : Nat} {R fm : Nat → Int64} (h : Mm mem n R fm) : j_ex tb (d + 1) m_Me_clear [.ref 14] mem (.inl none) (j_set mem 14 (.inr (4, [.ref 15, .int (nI 0), .ref 17]))) := by
  have h1 := h.1
  refine ⟨e_Me_clear, rfl, Nat.le_of_ble_eq_true rfl, ?_⟩
  repeat (first | refine ev_go rfl (by rfl) ?_ | refine ev_gf rfl (by assumption) (by rfl) (by rfl) ?_)
  refine ev_pf rfl (by assumption) (by rfl) (by rfl) (by rfl) ?_
  exact j_ev.ret rfl
theorem sw_cpy (R f : Nat → Int64) (i : Nat) : sw (va_cpy R f (i * 6) 0 6) (row R i) := by
  intro j hj
  rw [pk_cpy_in (by omega) (by omega)]
  rfl
/-- memory without its middle version -/
def Mw (mem : j_M) (n : Nat) (R : Nat → Int64) : Prop := mem.2.2 14 = some (.inr (4, [.ref 15, .int (nI n), .ref 17])) ∧ True ∧ mem.2.2 17 = some (.inl (1, 3000, .inr (.inl R)))
theorem x_Me_load (d : Nat) {mem : j_M} {n i v w : Nat} {R f : Nat → Int64} (h : Mw mem n R) (hn : n ≤ 500) (hi : i < n) (hv : Ve mem v w f) (hw : 4 ≤ w) :
    ∃ f', sw f' (row R i) ∧ j_ex tb (d + 2) m_Me_load [.ref 14, .int (nI i), .ref v] mem (.inl none) (j_set mem w (vW f')) := by
  refine ⟨_, sw_cpy R f i, ?_⟩
  have h1 := h.1
  have h2 := h.2.2
  have v1 := hv.1
  have v2 := hv.2
  refine ⟨e_Me_load, rfl, Nat.le_of_ble_eq_true rfl, ?_⟩
  repeat (first | refine ev_go rfl (by rfl) ?_ | refine ev_gf rfl (by assumption) (by rfl) (by rfl) ?_)
  refine ev_ifF rfl (by exact b_nlt (a := i) (b := 0) (by omega) (by omega) (by omega)) ?_
  repeat (first | refine ev_go rfl (by rfl) ?_ | refine ev_gf rfl (by assumption) (by rfl) (by rfl) ?_)
  refine ev_icF rfl (by exact b_nle (a := n) (b := i) (by omega) (by omega) (by omega)) ?_
  repeat (first | refine ev_go rfl (by rfl) ?_ | refine ev_gf rfl (by assumption) (by rfl) (by rfl) ?_)
  refine ev_cv (as := []) rfl rfl rfl (by assumption) (by rfl) (by rfl) (x_Ve_words d hv) ?_
  repeat (first | refine ev_go rfl (by rfl) ?_ | refine ev_gf rfl (by assumption) (by rfl) (by rfl) ?_)
  refine ev_s (st' := [.int (nI 6), .int (nI 0), .ref w, .int (nI (i * 6)), .ref 17]) (by rw [← pk_mul i 6]; rfl) ?_
  refine ev_cplN rfl h2 v2 (by omega) (by omega) (by omega) (by omega) (by omega) (by omega) hw (by decide) ?_
  exact j_ev.ret rfl
/-- the search in memory -/
theorem x_Me_fnb (d : Nat) {mem : j_M} {n vt wt : Nat} {R fm ft : Nat → Int64} (h : Mm mem n R fm) (hn : n ≤ 500) (ht : Ve mem vt wt ft) (n1 : wt ≠ 16) (n2 : vt ≠ 16)
    (hs : ∀ i j, i < j → j < n → v_ord (row R i) ≤ v_ord (row R j)) :
    ∃ k f'', k ≤ n ∧ (∀ i, i < k → v_ord (row R i) < v_ord ft) ∧ (∀ i, k ≤ i → i < n → v_ord ft ≤ v_ord (row R i)) ∧ j_ex tb (d + 8) m_Ru_firstNotBefore [.ref 14, .ref vt] mem (.inl (some (.int (nI k)))) (j_set mem 16 (vW f'')) := by
  refine x_Ru_fnb d (c := 4) (vm := 15) (wm := 16) (row R) (Or.inl rfl) h.1 h.2.1 ht n1 n2 (by omega) (by omega) (by omega) hs (x_Me_count (d + 6) h) ?_
  intro g i hi
  have h' : Mm (j_set mem 16 (vW g)) n R g := ⟨h.1, ⟨h.2.1.1, rfl⟩, h.2.2⟩
  obtain ⟨f', a1, a2⟩ := x_Me_load (d + 5) ⟨h'.1, trivial, h'.2.2⟩ hn hi h'.2.1 (by omega)
  exact ⟨f', a1, by rw [st_st] at a2; exact a2⟩
/-- rows with one more among them -/
def rIns (R g : Nat → Int64) (n k : Nat) : Nat → Int64 := va_cpy g (va_cpy R R (k * 6) (k * 6 + 6) (n * 6 - k * 6)) 0 (k * 6) 6
theorem rIns_lt (R g : Nat → Int64) {n k i : Nat} (hi : i < k) : sw (row (rIns R g n k) i) (row R i) := by
  intro j hj
  unfold row rIns
  rw [pk_cpy_out (Or.inl (by omega)), pk_cpy_out (Or.inl (by omega))]
theorem rIns_eq (R g : Nat → Int64) {n k : Nat} : sw (row (rIns R g n k) k) g := by
  intro j hj
  unfold row rIns
  rw [pk_cpy_in (by omega) (by omega)]
  congr 1
  omega
theorem rIns_gt (R g : Nat → Int64) {n k i : Nat} (hi : k ≤ i) (hn : i < n) : sw (row (rIns R g n k) (i + 1)) (row R i) := by
  intro j hj
  unfold row rIns
  rw [pk_cpy_out (Or.inr (by omega)), pk_cpy_in (by omega) (by omega)]
  congr 1
  omega
theorem x_Me_insert (d : Nat) {mem : j_M} {n v w : Nat} {R fm g : Nat → Int64} (h : Mm mem n R fm) (hn : n < 500) (hv : Ve mem v w g) (n1 : 18 ≤ w) (n2 : 18 ≤ v)
    (hs : ∀ i j, i < j → j < n → v_ord (row R i) ≤ v_ord (row R j)) :
    ∃ k f'', k ≤ n ∧ (∀ i, i < k → v_ord (row R i) < v_ord g) ∧ (∀ i, k ≤ i → i < n → v_ord g ≤ v_ord (row R i)) ∧ j_ex tb (d + 9) m_Me_insert [.ref 14, .ref v] mem (.inl none) (j_set (j_set (j_set mem 16 (vW f'')) 17 (.inl (1, 3000, .inr (.inl (rIns R g n k))))) 14 (.inr (4, [.ref 15, .int (nI (n + 1)), .ref 17]))) := by
  obtain ⟨k, f'', a1, a2, a3, a4⟩ := x_Me_fnb d h (by omega) hv (by omega) (by omega) hs
  refine ⟨k, f'', a1, a2, a3, ?_⟩
  have h1 := h.1
  have hv1 := hv.1
  have g1 : (j_set mem 16 (vW f'')).2.2 14 = some (.inr (4, [.ref 15, .int (nI n), .ref 17])) := h1
  have g2 : (j_set mem 16 (vW f'')).2.2 17 = some (.inl (1, 3000, .inr (.inl R))) := h.2.2
  have hu : ∀ x, Ve (j_set (j_set mem 16 (vW f'')) 17 x) v w g := fun x => ⟨by rw [st_ne _ _ (by omega), st_ne _ _ (by omega)]; exact hv.1, by rw [st_ne _ _ (by omega), st_ne _ _ (by omega)]; exact hv.2⟩
  have g3 : ∀ x, (j_set (j_set mem 16 (vW f'')) 17 x).2.2 14 = some (.inr (4, [.ref 15, .int (nI n), .ref 17])) := fun x => h1
  refine ⟨e_Me_insert, rfl, Nat.le_of_ble_eq_true rfl, ?_⟩
  repeat (first | refine ev_go rfl (by rfl) ?_ | refine ev_gf rfl (by assumption) (by rfl) (by rfl) ?_)
  refine ev_icF rfl (by exact b_nle (a := 500) (b := n) (by omega) (by omega) (by omega)) ?_
  repeat (first | refine ev_go rfl (by rfl) ?_ | refine ev_gf rfl (by assumption) (by rfl) (by rfl) ?_)
  refine ev_cv (as := [.ref v]) rfl rfl rfl (by assumption) (by rfl) (by rfl) (a4) ?_
  repeat (first | refine ev_go rfl (by rfl) ?_ | refine ev_gf rfl (by assumption) (by rfl) (by rfl) ?_)
  refine ev_s (st' := [.int (nI (n * 6 - k * 6)), .int (nI (k * 6 + 6)), .ref 17, .int (nI (k * 6)), .ref 17]) (by rw [← pk_sub (a := n * 6) (by omega), ← nI_add (k * 6) 6, ← pk_mul n 6, ← pk_mul k 6]; rfl) ?_
  refine ev_cplN rfl g2 g2 (by omega) (by omega) (by omega) (by omega) (by omega) (by omega) (by omega) (by decide) ?_
  have hu1 := hu (.inl (1, 3000, .inr (.inl (va_cpy R R (k * 6) (k * 6 + 6) (n * 6 - k * 6)))))
  have hu2 := hu1.1
  have g4 := g3 (.inl (1, 3000, .inr (.inl (va_cpy R R (k * 6) (k * 6 + 6) (n * 6 - k * 6)))))
  repeat (first | refine ev_go rfl (by rfl) ?_ | refine ev_gf rfl (by assumption) (by rfl) (by rfl) ?_)
  refine ev_cv (as := []) rfl rfl rfl (by assumption) (by rfl) (by rfl) (x_Ve_words (d + 7) hu1) ?_
  repeat (first | refine ev_go rfl (by rfl) ?_ | refine ev_gf rfl (by assumption) (by rfl) (by rfl) ?_)
  refine ev_s (st' := [.int (nI 6), .int (nI (k * 6)), .ref 17, .int (nI 0), .ref w]) (by rw [← pk_mul k 6]; rfl) ?_
  refine ev_cplN rfl hu1.2 (st_same _ _ _) (by omega) (by omega) (by omega) (by omega) (by omega) (by omega) (by omega) (by decide) ?_
  rw [st_st]
  have g5 := g3 (.inl (1, 3000, .inr (.inl (rIns R g n k))))
  rw [← nI_1 n]
  unfold rIns at g5 ⊢
  repeat (first | refine ev_go rfl (by rfl) ?_ | refine ev_gf rfl (by assumption) (by rfl) (by rfl) ?_)
  refine ev_pf rfl (by assumption) (by rfl) (by rfl) (by rfl) ?_
  exact j_ev.ret rfl
