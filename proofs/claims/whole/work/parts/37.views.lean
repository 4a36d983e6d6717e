/-! VIEWS (own text) -/
def vo (x : Option Nat) : Int32 := match x with
  | none => -1
  | some m => nI m
/-- the present moment, and what the views see -/
def Vw (mem : j_M) (P : Nat) (s : Nat → Option Nat) : Prop := mem.2.2 7 = some (.inr (2, [.int (nI P), .ref 8])) ∧ mem.2.2 8 = some (.inl (0, 8, .inl (fun j => vo (s j))))
def bI (b : Bool) : Int32 := if b then 1 else 0
theorem vo_up (s : Nat → Option Nat) (i : Nat) (x : Option Nat) : upd (fun j => vo (s j)) i (vo x) = fun j => vo (va_up s i x j) := by
  funext j
  by_cases h : j = i
  · subst h; rw [pk_us, va_up_self]
  · rw [pk_un h, va_up_ne _ _ h]
theorem x_Vi_present (d : Nat) {mem : j_M} {P : Nat} {s : Nat → Option Nat} (h : Vw mem P s) : j_ex tb (d + 1) m_Vi_present [.ref 7] mem (.inl (some (.int (nI P)))) mem := by
  have h1 := h.1
  refine ⟨e_Vi_present, rfl, Nat.le_of_ble_eq_true rfl, ?_⟩
  repeat (first | refine ev_go rfl (by rfl) ?_ | refine ev_gf rfl (by assumption) (by rfl) (by rfl) ?_)
  exact j_ev.ret rfl
theorem x_Vi_step (d : Nat) {mem : j_M} {P : Nat} {s : Nat → Option Nat} (h : Vw mem P s) : j_ex tb (d + 1) m_Vi_step [.ref 7] mem (.inl none) (j_set mem 7 (.inr (2, [.int (nI (P + 1)), .ref 8]))) := by
  have h1 := h.1
  rw [← nI_1 P]
  refine ⟨e_Vi_step, rfl, Nat.le_of_ble_eq_true rfl, ?_⟩
  repeat (first | refine ev_go rfl (by rfl) ?_ | refine ev_gf rfl (by assumption) (by rfl) (by rfl) ?_)
  refine ev_pf rfl (by assumption) (by rfl) (by rfl) (by rfl) ?_
  exact j_ev.ret rfl
theorem x_Vi_momentOf (d : Nat) {mem : j_M} {P i : Nat} {s : Nat → Option Nat} (h : Vw mem P s) (hi : i < 8) : j_ex tb (d + 1) m_Vi_momentOf [.ref 7, .int (nI i)] mem (.inl (some (.int (vo (s i))))) mem := by
  have h1 := h.1
  have h2 := h.2
  refine ⟨e_Vi_momentOf, rfl, Nat.le_of_ble_eq_true rfl, ?_⟩
  repeat (first | refine ev_go rfl (by rfl) ?_ | refine ev_gf rfl (by assumption) (by rfl) (by rfl) ?_)
  refine ev_ifF rfl (by exact b_nlt (a := i) (b := 0) (by omega) (by omega) (by omega)) ?_
  repeat (first | refine ev_go rfl (by rfl) ?_ | refine ev_gf rfl (by assumption) (by rfl) (by rfl) ?_)
  refine ev_icF rfl (by exact b_nle (a := 8) (b := i) (by omega) (by omega) (by omega)) ?_
  repeat (first | refine ev_go rfl (by rfl) ?_ | refine ev_gf rfl (by assumption) (by rfl) (by rfl) ?_)
  refine ev_aliN (i := i) rfl (by assumption) (by omega) (by omega) ?_
  repeat (first | refine ev_go rfl (by rfl) ?_ | refine ev_gf rfl (by assumption) (by rfl) (by rfl) ?_)
  exact j_ev.ret rfl
theorem x_Vi_momentOfP (d : Nat) {mem : j_M} {P : Nat} {s : Nat → Option Nat} (h : Vw mem P s) : j_ex tb (d + 1) m_Vi_momentOf [.ref 7, .int (-1)] mem (.inl (some (.int (nI P)))) mem := by
  have h1 := h.1
  refine ⟨e_Vi_momentOf, rfl, Nat.le_of_ble_eq_true rfl, ?_⟩
  repeat (first | refine ev_go rfl (by rfl) ?_ | refine ev_gf rfl (by assumption) (by rfl) (by rfl) ?_)
  exact j_ev.ret rfl
theorem x_Vi_begin (d : Nat) {mem : j_M} {P i : Nat} {s : Nat → Option Nat} (h : Vw mem P s) (hi : i < 8) : j_ex tb (d + 1) m_Vi_begin [.ref 7, .int (nI i)] mem (.inl none) (j_set mem 8 (.inl (0, 8, .inl (fun j => vo (va_up s i (some P) j))))) := by
  have h1 := h.1
  have h2 := h.2
  rw [← vo_up]
  refine ⟨e_Vi_begin, rfl, Nat.le_of_ble_eq_true rfl, ?_⟩
  repeat (first | refine ev_go rfl (by rfl) ?_ | refine ev_gf rfl (by assumption) (by rfl) (by rfl) ?_)
  refine ev_ifF rfl (by exact b_nlt (a := i) (b := 0) (by omega) (by omega) (by omega)) ?_
  repeat (first | refine ev_go rfl (by rfl) ?_ | refine ev_gf rfl (by assumption) (by rfl) (by rfl) ?_)
  refine ev_icF rfl (by exact b_nle (a := 8) (b := i) (by omega) (by omega) (by omega)) ?_
  repeat (first | refine ev_go rfl (by rfl) ?_ | refine ev_gf rfl (by assumption) (by rfl) (by rfl) ?_)
  refine ev_aiN (i := i) rfl (by assumption) (by omega) (by omega) (by omega) ?_
  exact j_ev.ret rfl
theorem x_Vi_finish (d : Nat) {mem : j_M} {P i : Nat} {s : Nat → Option Nat} (h : Vw mem P s) (hi : i < 8) : j_ex tb (d + 1) m_Vi_finish [.ref 7, .int (nI i)] mem (.inl none) (j_set mem 8 (.inl (0, 8, .inl (fun j => vo (va_up s i none j))))) := by
  have h1 := h.1
  have h2 := h.2
  rw [← vo_up]
  refine ⟨e_Vi_finish, rfl, Nat.le_of_ble_eq_true rfl, ?_⟩
  repeat (first | refine ev_go rfl (by rfl) ?_ | refine ev_gf rfl (by assumption) (by rfl) (by rfl) ?_)
  refine ev_ifF rfl (by exact b_nlt (a := i) (b := 0) (by omega) (by omega) (by omega)) ?_
  repeat (first | refine ev_go rfl (by rfl) ?_ | refine ev_gf rfl (by assumption) (by rfl) (by rfl) ?_)
  refine ev_icF rfl (by exact b_nle (a := 8) (b := i) (by omega) (by omega) (by omega)) ?_
  repeat (first | refine ev_go rfl (by rfl) ?_ | refine ev_gf rfl (by assumption) (by rfl) (by rfl) ?_)
  refine ev_aiN (i := i) rfl (by assumption) (by omega) (by omega) (by omega) ?_
  exact j_ev.ret rfl
/-- a moment that is the present one or seen -/
def vis (P : Nat) (s : Nat → Option Nat) (m : Nat) : Prop := m = P ∨ ∃ i, i < 8 ∧ s i = some m
theorem x_Vi_need (d : Nat) {mem : j_M} {P a u : Nat} {s : Nat → Option Nat} (h : Vw mem P s) (hP : P < 2 ^ 31) (hs : ∀ i m, s i = some m → m < 2 ^ 31) (ha : a < 2 ^ 31) (hu : u < 2 ^ 31) :
    ∃ b : Bool, (b = true ↔ ∃ m, vis P s m ∧ a ≤ m ∧ m < u) ∧ j_ex tb (d + 1) m_Vi_need [.ref 7, .int (nI a), .int (nI u)] mem (.inl (some (.int (bI b)))) mem := by
  have h1 := h.1
  have h2 := h.2
  have loop : ∀ (k i : Nat), i + k = 8 → ∃ b : Bool, (b = true ↔ ∃ m j, i ≤ j ∧ j < 8 ∧ s j = some m ∧ a ≤ m ∧ m < u) ∧ j_ev (d + 1) (j_ex tb (d + 0)) (j_tab q_Vi_need) [] (.inl (some (.int (bI b)))) (mem) 20 [some (.ref 7), some (.int (nI a)), some (.int (nI u)), some (.int (nI i))] [] mem := by
    intro k
    induction k with
    | zero =>
      intro i hi
      have hi : i = 8 := by omega
      subst hi
      refine ⟨false, ⟨fun q => (by cases q), fun ⟨m, j, q1, q2, _⟩ => by omega⟩, ?_⟩
      repeat (first | refine ev_go rfl (by rfl) ?_ | refine ev_gf rfl (by assumption) (by rfl) (by rfl) ?_)
      exact j_ev.ret rfl
    | succ k ih =>
      intro i hi
      obtain ⟨b, hb, k1⟩ := ih (i + 1) (by omega)
      rw [← nI_1 i] at k1
      have skip : (∀ m, s i = some m → ¬ (a ≤ m ∧ m < u)) → (b = true ↔ ∃ m j, i ≤ j ∧ j < 8 ∧ s j = some m ∧ a ≤ m ∧ m < u) := by
        intro hno
        rw [hb]
        refine ⟨fun ⟨m, j, q1, q2, q3⟩ => ⟨m, j, by omega, q2, q3⟩, fun ⟨m, j, q1, q2, q3, q4⟩ => ⟨m, j, ?_, q2, q3, q4⟩⟩
        by_cases c : j = i
        · subst c; exact absurd q4 (hno m q3)
        · omega
      cases hsi : s i with
      | none =>
        refine ⟨b, skip (fun m hm => by rw [hsi] at hm; cases hm), ?_⟩
        repeat (first | refine ev_go rfl (by rfl) ?_ | refine ev_gf rfl (by assumption) (by rfl) (by rfl) ?_)
        refine ev_icF rfl (by exact b_nle (a := 8) (b := i) (by omega) (by omega) (by omega)) ?_
        repeat (first | refine ev_go rfl (by rfl) ?_ | refine ev_gf rfl (by assumption) (by rfl) (by rfl) ?_)
        refine ev_aliN (i := i) rfl (by assumption) (by omega) (by omega) ?_
        rw [hsi]
        refine ev_icT rfl (by exact decide_eq_true (by
          show (-1 : Int32) < nI a
          have := nI_pos' ha
          rw [Int32.lt_iff_toInt_lt]
          rw [nI_toInt ha]
          have e : (-1 : Int32).toInt = -1 := rfl
          omega)) ?_
        repeat (first | exact k1 | refine ev_go rfl (by rfl) ?_ | refine ev_gf rfl (by assumption) (by rfl) (by rfl) ?_)
      | some m =>
        have hm := hs i m hsi
        by_cases c1 : m < a
        · refine ⟨b, skip (fun m' hm' => by rw [hsi] at hm'; cases hm'; omega), ?_⟩
          repeat (first | refine ev_go rfl (by rfl) ?_ | refine ev_gf rfl (by assumption) (by rfl) (by rfl) ?_)
          refine ev_icF rfl (by exact b_nle (a := 8) (b := i) (by omega) (by omega) (by omega)) ?_
          repeat (first | refine ev_go rfl (by rfl) ?_ | refine ev_gf rfl (by assumption) (by rfl) (by rfl) ?_)
          refine ev_aliN (i := i) rfl (by assumption) (by omega) (by omega) ?_
          rw [hsi]
          refine ev_icT rfl (by exact b_lt (a := m) (b := a) (by omega) (by omega) (by omega)) ?_
          repeat (first | exact k1 | refine ev_go rfl (by rfl) ?_ | refine ev_gf rfl (by assumption) (by rfl) (by rfl) ?_)
        · by_cases c2 : u ≤ m
          · refine ⟨b, skip (fun m' hm' => by rw [hsi] at hm'; cases hm'; omega), ?_⟩
            repeat (first | refine ev_go rfl (by rfl) ?_ | refine ev_gf rfl (by assumption) (by rfl) (by rfl) ?_)
            refine ev_icF rfl (by exact b_nle (a := 8) (b := i) (by omega) (by omega) (by omega)) ?_
            repeat (first | refine ev_go rfl (by rfl) ?_ | refine ev_gf rfl (by assumption) (by rfl) (by rfl) ?_)
            refine ev_aliN (i := i) rfl (by assumption) (by omega) (by omega) ?_
            rw [hsi]
            refine ev_icF rfl (by exact b_nlt (a := m) (b := a) (by omega) (by omega) (by omega)) ?_
            repeat (first | refine ev_go rfl (by rfl) ?_ | refine ev_gf rfl (by assumption) (by rfl) (by rfl) ?_)
            refine ev_aliN (i := i) rfl (by assumption) (by omega) (by omega) ?_
            rw [hsi]
            repeat (first | refine ev_go rfl (by rfl) ?_ | refine ev_gf rfl (by assumption) (by rfl) (by rfl) ?_)
            refine ev_icT rfl (by exact b_le (a := u) (b := m) (by omega) (by omega) (by omega)) ?_
            repeat (first | exact k1 | refine ev_go rfl (by rfl) ?_ | refine ev_gf rfl (by assumption) (by rfl) (by rfl) ?_)
          · refine ⟨true, ⟨fun _ => ⟨m, i, by omega, by omega, hsi, by omega, by omega⟩, fun _ => rfl⟩, ?_⟩
            repeat (first | refine ev_go rfl (by rfl) ?_ | refine ev_gf rfl (by assumption) (by rfl) (by rfl) ?_)
            refine ev_icF rfl (by exact b_nle (a := 8) (b := i) (by omega) (by omega) (by omega)) ?_
            repeat (first | refine ev_go rfl (by rfl) ?_ | refine ev_gf rfl (by assumption) (by rfl) (by rfl) ?_)
            refine ev_aliN (i := i) rfl (by assumption) (by omega) (by omega) ?_
            rw [hsi]
            refine ev_icF rfl (by exact b_nlt (a := m) (b := a) (by omega) (by omega) (by omega)) ?_
            repeat (first | refine ev_go rfl (by rfl) ?_ | refine ev_gf rfl (by assumption) (by rfl) (by rfl) ?_)
            refine ev_aliN (i := i) rfl (by assumption) (by omega) (by omega) ?_
            rw [hsi]
            repeat (first | refine ev_go rfl (by rfl) ?_ | refine ev_gf rfl (by assumption) (by rfl) (by rfl) ?_)
            refine ev_icF rfl (by exact b_nle (a := u) (b := m) (by omega) (by omega) (by omega)) ?_
            repeat (first | refine ev_go rfl (by rfl) ?_ | refine ev_gf rfl (by assumption) (by rfl) (by rfl) ?_)
            exact j_ev.ret rfl
  obtain ⟨b, hb, k0⟩ := loop 8 0 (by omega)
  by_cases c1 : P < a
  · refine ⟨b, ?_, ?_⟩
    · rw [hb]
      exact ⟨fun ⟨m, j, q1, q2, q3, q4⟩ => ⟨m, Or.inr ⟨j, q2, q3⟩, q4⟩, fun ⟨m, hv, q4⟩ => by
        rcases hv with rfl | ⟨j, q2, q3⟩
        · omega
        · exact ⟨m, j, by omega, q2, q3, q4⟩⟩
    · refine ⟨e_Vi_need, rfl, Nat.le_of_ble_eq_true rfl, ?_⟩
      repeat (first | refine ev_go rfl (by rfl) ?_ | refine ev_gf rfl (by assumption) (by rfl) (by rfl) ?_)
      refine ev_icT rfl (by exact b_lt (a := P) (b := a) (by omega) (by omega) (by omega)) ?_
      repeat (first | exact k0 | refine ev_go rfl (by rfl) ?_ | refine ev_gf rfl (by assumption) (by rfl) (by rfl) ?_)
  · by_cases c2 : u ≤ P
    · refine ⟨b, ?_, ?_⟩
      · rw [hb]
        exact ⟨fun ⟨m, j, q1, q2, q3, q4⟩ => ⟨m, Or.inr ⟨j, q2, q3⟩, q4⟩, fun ⟨m, hv, q4⟩ => by
          rcases hv with rfl | ⟨j, q2, q3⟩
          · omega
          · exact ⟨m, j, by omega, q2, q3, q4⟩⟩
      · refine ⟨e_Vi_need, rfl, Nat.le_of_ble_eq_true rfl, ?_⟩
        repeat (first | refine ev_go rfl (by rfl) ?_ | refine ev_gf rfl (by assumption) (by rfl) (by rfl) ?_)
        refine ev_icF rfl (by exact b_nlt (a := P) (b := a) (by omega) (by omega) (by omega)) ?_
        repeat (first | refine ev_go rfl (by rfl) ?_ | refine ev_gf rfl (by assumption) (by rfl) (by rfl) ?_)
        refine ev_icT rfl (by exact b_le (a := u) (b := P) (by omega) (by omega) (by omega)) ?_
        repeat (first | exact k0 | refine ev_go rfl (by rfl) ?_ | refine ev_gf rfl (by assumption) (by rfl) (by rfl) ?_)
    · refine ⟨true, ⟨fun _ => ⟨P, Or.inl rfl, by omega, by omega⟩, fun _ => rfl⟩, ?_⟩
      refine ⟨e_Vi_need, rfl, Nat.le_of_ble_eq_true rfl, ?_⟩
      repeat (first | refine ev_go rfl (by rfl) ?_ | refine ev_gf rfl (by assumption) (by rfl) (by rfl) ?_)
      refine ev_icF rfl (by exact b_nlt (a := P) (b := a) (by omega) (by omega) (by omega)) ?_
      repeat (first | refine ev_go rfl (by rfl) ?_ | refine ev_gf rfl (by assumption) (by rfl) (by rfl) ?_)
      refine ev_icF rfl (by exact b_nle (a := u) (b := P) (by omega) (by omega) (by omega)) ?_
      repeat (first | refine ev_go rfl (by rfl) ?_ | refine ev_gf rfl (by assumption) (by rfl) (by rfl) ?_)
      exact j_ev.ret rfl
/-- a run at some depth is one at every greater depth -/
theorem ev_mono {d d' : Nat} {C C' : Nat → List Value → j_M → j_O → j_M → Prop} {code : Nat → j_S} {hn : List (Nat × Nat × Nat)} {o : j_O} {mo : j_M} {pc : Nat} {lc : j_L} {st : List Value} {mem : j_M} (hd : d ≤ d') (hC : ∀ k as m o m', C k as m o m' → C' k as m o m') (h : j_ev d C code hn o mo pc lc st mem) : j_ev d' C' code hn o mo pc lc st mem :=
  fun P h1 h2 h3 h4 h5 h6 => h P h1 h2
    (fun pc lc st mem k as r v mem' a b => h3 pc lc st mem k as r v mem' a (hC _ _ _ _ _ b))
    (fun pc lc st mem k as r z mem' h a b => h4 pc lc st mem k as r z mem' h a (hC _ _ _ _ _ b))
    (fun pc lc st mem k as r z a b => h5 pc lc st mem k as r z a (hC _ _ _ _ _ b))
    (fun pc lc st mem z a b => h6 pc lc st mem z a (Nat.le_trans b hd))
theorem ex_mono : ∀ (d d' : Nat) (k : Nat) (as : List Value) (m : j_M) (o : j_O) (m' : j_M), d ≤ d' → j_ex tb d k as m o m' → j_ex tb d' k as m o m'
  | 0, _, _, _, _, _, _, _, h => h.elim
  | d + 1, 0, _, _, _, _, _, hd, _ => by omega
  | d + 1, d' + 1, k, as, m, o, m', hd, h => by
    obtain ⟨en, h1, h2, h3⟩ := h
    exact ⟨en, h1, h2, ev_mono hd (fun k as m o m' => ex_mono d d' k as m o m' (by omega)) h3⟩
