/-! CHIP: take; TABLE (own text) -/
theorem va_up_same {α : Type} {f : Nat → α} {a : Nat} {x : α} (h : f a = x) : va_up f a x = f := by rw [← h, va_up_id]
theorem x_Ch_take (d : Nat) {mem : j_M} {B : Nat → Option Nat} {Wn T U : Nat → Int32} {D : Nat → Nat → Int64} {b : Nat} (h : Cp mem B Wn T U) (hR : Rw mem B D) (h78 : 78 ≤ mem.1) (hb : b < 1000) (hT : T b = 0) (hlt : ∀ i, i < b → ¬ T i = 0) :
    ∃ a mem' D', j_ex tb (d + 3) m_Ch_take [.ref 9] mem (.inl (some (.int (nI b)))) mem' ∧ Cp mem' (va_up B b (some a)) (upd Wn b 0) (upd T b 1) U ∧ Rw mem' (va_up B b (some a)) D' ∧ (∀ x, x ≠ b → D' x = D x) ∧ (∀ c, c ≠ 10 → c ≠ 11 → c ≠ 12 → c ≠ a → mem'.2.2 c = mem.2.2 c) ∧ 78 ≤ a ∧ ((B b = some a ∧ mem'.1 = mem.1 ∧ mem'.2.1 = mem.2.1) ∨ (B b = none ∧ a = mem.1 ∧ mem'.1 = mem.1 + 1 ∧ mem'.2.1 = mem.2.1 + 48)) := by
  have h1 := h.1
  have h4 := h.2.2.2.1
  have hC : Cp (j_set mem 12 (.inl (0, 1000, .inl (upd T b 1)))) B Wn (upd T b 1) U := ⟨h.1, h.2.1, h.2.2.1, rfl, h.2.2.2.2⟩
  have hR2 : Rw (j_set mem 12 (.inl (0, 1000, .inl (upd T b 1)))) B D := ⟨fun b a hB => ⟨(hR.1 b a hB).1, (hR.1 b a hB).2.1, by rw [st_ne _ _ (by have := (hR.1 b a hB).1; omega)]; exact (hR.1 b a hB).2.2⟩, hR.2⟩
  have fin : ∀ (mem' : j_M), j_ex tb (d + 2) m_Ch_erase [.ref 9, .int (nI b)] (j_set mem 12 (.inl (0, 1000, .inl (upd T b 1)))) (.inl none) mem' → j_ex tb (d + 3) m_Ch_take [.ref 9] mem (.inl (some (.int (nI b)))) mem' := by
    intro mem' ke
    have g1 := hC.1
    have loop : ∀ (k i : Nat), i + k = b → j_ev (d + 3) (j_ex tb (d + 2)) (j_tab q_Ch_take) [] (.inl (some (.int (nI b)))) (mem') 2 [some (.ref 9), some (.int (nI i))] [] mem := by
      intro k
      induction k with
      | zero =>
        intro i hi
        have hi : i = b := by omega
        subst hi
        repeat (first | refine ev_go rfl (by rfl) ?_ | refine ev_gf rfl (by assumption) (by rfl) (by rfl) ?_)
        refine ev_icF rfl (by exact b_nle (a := 1000) (b := i) (by omega) (by omega) (by omega)) ?_
        repeat (first | refine ev_go rfl (by rfl) ?_ | refine ev_gf rfl (by assumption) (by rfl) (by rfl) ?_)
        refine ev_aliN (i := i) rfl (by assumption) (by omega) (by omega) ?_
        rw [hT]
        repeat (first | refine ev_go rfl (by rfl) ?_ | refine ev_gf rfl (by assumption) (by rfl) (by rfl) ?_)
        refine ev_aiN (i := i) rfl (by assumption) (by omega) (by omega) (by omega) ?_
        repeat (first | refine ev_go rfl (by rfl) ?_ | refine ev_gf rfl (by assumption) (by rfl) (by rfl) ?_)
        refine ev_cv (as := [.int (nI i)]) rfl rfl rfl (by assumption) (by rfl) (by rfl) (ke) ?_
        repeat (first | refine ev_go rfl (by rfl) ?_ | refine ev_gf rfl (by assumption) (by rfl) (by rfl) ?_)
        exact j_ev.ret rfl
      | succ k ih =>
        intro i hi
        have k1 := ih (i + 1) (by omega)
        rw [← nI_1 i] at k1
        have hne := hlt i (by omega)
        repeat (first | refine ev_go rfl (by rfl) ?_ | refine ev_gf rfl (by assumption) (by rfl) (by rfl) ?_)
        refine ev_icF rfl (by exact b_nle (a := 1000) (b := i) (by omega) (by omega) (by omega)) ?_
        repeat (first | refine ev_go rfl (by rfl) ?_ | refine ev_gf rfl (by assumption) (by rfl) (by rfl) ?_)
        refine ev_aliN (i := i) rfl (by assumption) (by omega) (by omega) ?_
        refine ev_ifT rfl (by exact decide_eq_true hne) ?_
        repeat (first | exact k1 | refine ev_go rfl (by rfl) ?_ | refine ev_gf rfl (by assumption) (by rfl) (by rfl) ?_)
    have k0 := loop b 0 (by omega)
    refine ⟨e_Ch_take, rfl, Nat.le_of_ble_eq_true rfl, ?_⟩
    repeat (first | exact k0 | refine ev_go rfl (by rfl) ?_ | refine ev_gf rfl (by assumption) (by rfl) (by rfl) ?_)
  cases hB : B b with
  | some a =>
    have hRa := hR.1 b a hB
    refine ⟨a, _, va_up D b (flJ (D b) 48 (-1)), fin _ (x_Ch_eraseO d hC hR2 hb hB), ?_, ?_, ?_, ?_, hRa.1, Or.inl ⟨rfl, rfl, rfl⟩⟩
    · rw [va_up_same hB]
      refine ⟨?_, ?_, ?_, ?_, ?_⟩
      · rw [st_ne _ _ (by omega), st_ne _ _ (by omega), st_ne _ _ (by omega)]; exact h.1
      · rw [st_ne _ _ (by omega), st_ne _ _ (by omega), st_ne _ _ (by omega)]; exact h.2.1
      · exact st_same _ _ _
      · rw [st_ne _ _ (by omega), st_ne _ _ (by omega)]; exact st_same _ _ _
      · rw [st_ne _ _ (by omega), st_ne _ _ (by omega), st_ne _ _ (by omega)]; exact h.2.2.2.2
    · rw [va_up_same hB]
      refine ⟨fun b' a' hB' => ?_, hR.2⟩
      have hR' := hR.1 b' a' hB'
      refine ⟨hR'.1, hR'.2.1, ?_⟩
      rw [st_ne _ _ (by omega)]
      by_cases c : b' = b
      · subst c
        rw [hB] at hB'
        cases hB'
        rw [st_same, va_up_self]
      · rw [st_ne _ _ (fun q => c (hR.2 b' b a' hB' (by rw [q]; exact hB))), st_ne _ _ (by omega), va_up_ne _ _ c]
        exact hR'.2.2
    · intro x hx
      exact va_up_ne _ _ hx
    · intro c c1 c2 c3 c4
      rw [st_ne _ _ c2, st_ne _ _ c4, st_ne _ _ c3]
  | none =>
    refine ⟨mem.1, _, va_up D b (flJ (fun _ => 0) 48 (-1)), fin _ (x_Ch_eraseN d hC hb hB h78), ?_, ?_, ?_, ?_, h78, Or.inr ⟨rfl, rfl, rfl, rfl⟩⟩
    · refine ⟨?_, ?_, ?_, ?_, ?_⟩
      · rw [st_ne _ _ (by omega), st_ne _ _ (by show 9 ≠ mem.1; omega), st_ne _ _ (by omega), nw_ne _ _ _ (by show 9 ≠ mem.1; omega), st_ne _ _ (by omega)]; exact h.1
      · rw [st_ne _ _ (by omega), st_ne _ _ (by show 10 ≠ mem.1; omega)]; exact st_same _ _ _
      · exact st_same _ _ _
      · rw [st_ne _ _ (by omega), st_ne _ _ (by show 12 ≠ mem.1; omega), st_ne _ _ (by omega), nw_ne _ _ _ (by show 12 ≠ mem.1; omega)]; exact st_same _ _ _
      · rw [st_ne _ _ (by omega), st_ne _ _ (by show 13 ≠ mem.1; omega), st_ne _ _ (by omega), nw_ne _ _ _ (by show 13 ≠ mem.1; omega), st_ne _ _ (by omega)]; exact h.2.2.2.2
    · refine ⟨fun b' a' hB' => ?_, fun b1 b2 a' q1 q2 => ?_⟩
      · by_cases c : b' = b
        · subst c
          rw [va_up_self] at hB'
          cases hB'
          refine ⟨h78, Nat.lt_succ_self _, ?_⟩
          rw [st_ne _ _ (by omega)]
          refine Eq.trans (st_same _ _ _) ?_
          rw [va_up_self]
        · rw [va_up_ne _ _ c] at hB'
          have hR' := hR.1 b' a' hB'
          refine ⟨hR'.1, Nat.lt_succ_of_lt hR'.2.1, ?_⟩
          rw [st_ne _ _ (by omega), st_ne _ _ (by show a' ≠ mem.1; omega), st_ne _ _ (by omega), nw_ne _ _ _ (by show a' ≠ mem.1; omega), st_ne _ _ (by omega), va_up_ne _ _ c]
          exact hR'.2.2
      · by_cases e1 : b1 = b
        · by_cases e2 : b2 = b
          · rw [e1, e2]
          · subst e1
            rw [va_up_self] at q1
            cases q1
            rw [va_up_ne _ _ e2] at q2
            exact absurd (hR.1 _ _ q2).2.1 (by show ¬ mem.1 < mem.1; omega)
        · by_cases e2 : b2 = b
          · subst e2
            rw [va_up_self] at q2
            cases q2
            rw [va_up_ne _ _ e1] at q1
            exact absurd (hR.1 _ _ q1).2.1 (by show ¬ mem.1 < mem.1; omega)
          · rw [va_up_ne _ _ e1] at q1
            rw [va_up_ne _ _ e2] at q2
            exact hR.2 _ _ _ q1 q2
    · intro x hx
      exact va_up_ne _ _ hx
    · intro c c1 c2 c3 c4
      rw [st_ne _ _ c2, st_ne _ _ (show c ≠ (j_set mem 12 _).1 from c4), st_ne _ _ c1, nw_ne _ _ _ (show c ≠ (j_set mem 12 _).1 from c4), st_ne _ _ c3]
/-- a table at t: its blocks' array at q (n long), how many versions, sum, start -/
def Tb (mem : j_M) (t q : Nat) (bs : List Nat) (n : Nat) (s : Int64) (st : Nat) : Prop := mem.2.2 t = some (.inr (9, [.int (nI st), .ref q, .int (nI n), .long s])) ∧ ∃ f : Nat → Int32, mem.2.2 q = some (.inl (0, bs.length, .inl f)) ∧ ∀ i, i < bs.length → f i = nI (bs.getD i 0)
section TABLE
variable {mem : j_M} {t q n st : Nat} {bs : List Nat} {s : Int64}
theorem x_Tb_count (d : Nat) (h : Tb mem t q bs n s st) : j_ex tb (d + 1) m_Tb_count [.ref t] mem (.inl (some (.int (nI n)))) mem := by
  have h1 := h.1
  refine ⟨e_Tb_count, rfl, Nat.le_of_ble_eq_true rfl, ?_⟩
  repeat (first | refine ev_go rfl (by rfl) ?_ | refine ev_gf rfl (by assumption) (by rfl) (by rfl) ?_)
  exact j_ev.ret rfl
theorem x_Tb_sum (d : Nat) (h : Tb mem t q bs n s st) : j_ex tb (d + 1) m_Tb_sum [.ref t] mem (.inl (some (.long s))) mem := by
  have h1 := h.1
  refine ⟨e_Tb_sum, rfl, Nat.le_of_ble_eq_true rfl, ?_⟩
  repeat (first | refine ev_go rfl (by rfl) ?_ | refine ev_gf rfl (by assumption) (by rfl) (by rfl) ?_)
  exact j_ev.ret rfl
theorem x_Tb_start (d : Nat) (h : Tb mem t q bs n s st) : j_ex tb (d + 1) m_Tb_start [.ref t] mem (.inl (some (.int (nI st)))) mem := by
  have h1 := h.1
  refine ⟨e_Tb_start, rfl, Nat.le_of_ble_eq_true rfl, ?_⟩
  repeat (first | refine ev_go rfl (by rfl) ?_ | refine ev_gf rfl (by assumption) (by rfl) (by rfl) ?_)
  exact j_ev.ret rfl
theorem x_Tb_setStart (d : Nat) {z : Nat} (h : Tb mem t q bs n s st) : j_ex tb (d + 1) m_Tb_setStart [.ref t, .int (nI z)] mem (.inl none) (j_set mem t (.inr (9, [.int (nI z), .ref q, .int (nI n), .long s]))) := by
  have h1 := h.1
  refine ⟨e_Tb_setStart, rfl, Nat.le_of_ble_eq_true rfl, ?_⟩
  repeat (first | refine ev_go rfl (by rfl) ?_ | refine ev_gf rfl (by assumption) (by rfl) (by rfl) ?_)
  refine ev_pf rfl (by assumption) (by rfl) (by rfl) (by rfl) ?_
  exact j_ev.ret rfl
theorem x_Tb_blockOf (d : Nat) {i : Nat} (h : Tb mem t q bs n s st) (hi : i / 8 < bs.length) (hi2 : i < 2 ^ 31) (hl : bs.length < 2 ^ 31) : j_ex tb (d + 1) m_Tb_blockOf [.ref t, .int (nI i)] mem (.inl (some (.int (nI (bs.getD (i / 8) 0))))) mem := by
  have h1 := h.1
  obtain ⟨f, h2, h3⟩ := h.2
  rw [← h3 _ hi]
  have e : nI i / 8 = nI (i / 8) := pk_div (d := 8) hi2 (by omega) (by omega)
  refine ⟨e_Tb_blockOf, rfl, Nat.le_of_ble_eq_true rfl, ?_⟩
  repeat (first | refine ev_go rfl (by rfl) ?_ | refine ev_gf rfl (by assumption) (by rfl) (by rfl) ?_)
  refine ev_ifF rfl (by exact b_nlt (a := i) (b := 0) (by omega) (by omega) (by omega)) ?_
  repeat (first | refine ev_go rfl (by rfl) ?_ | refine ev_gf rfl (by assumption) (by rfl) (by rfl) ?_)
  refine ev_an rfl h2 (by rfl) ?_
  refine ev_s (st' := [.int (nI bs.length), .int (nI (i / 8))]) (by rw [← e]; rfl) ?_
  refine ev_icF rfl (by exact b_nle (a := bs.length) (b := i / 8) (by omega) (by omega) (by omega)) ?_
  repeat (first | refine ev_go rfl (by rfl) ?_ | refine ev_gf rfl (by assumption) (by rfl) (by rfl) ?_)
  refine ev_s (st' := [.int (nI (i / 8)), .ref q]) (by rw [← e]) ?_
  refine ev_aliN (i := i / 8) rfl h2 hi (by omega) ?_
  repeat (first | refine ev_go rfl (by rfl) ?_ | refine ev_gf rfl (by assumption) (by rfl) (by rfl) ?_)
  exact j_ev.ret rfl
end TABLE
