/-! ARRAYLIST: grow, add, remove, clear (own text) -/
theorem w_max {a b : Nat} (ha : a < 2 ^ 31) (hb : b < 2 ^ 31) : (if nI a < nI b then nI b else nI a) = nI (if a < b then b else a) := by
  by_cases h : a < b
  · rw [if_pos h, if_pos ((nI_ltI ha hb).mpr h)]
  · rw [if_neg h, if_neg (fun q => h ((nI_ltI ha hb).mp q))]
theorem w_min {a b : Nat} (ha : a < 2 ^ 31) (hb : b < 2 ^ 31) : (if nI b < nI a then nI b else nI a) = nI (if b < a then b else a) := by
  by_cases h : b < a
  · rw [if_pos h, if_pos ((nI_ltI hb ha).mpr h)]
  · rw [if_neg h, if_neg (fun q => h ((nI_ltI hb ha).mp q))]
theorem nw_st (mem : j_M) (n : Nat) (c : Option j_C) (x : j_C) : j_set (j_new mem n c) mem.1 x = j_new mem n (some x) := by
  unfold j_set j_new
  simp only [va_up_up]
def aE (n : Nat) (E : Nat → Option Nat) : j_C := .inl (6, n, .inr (.inr (.inr (.inr E))))
section GROW
variable {mem : j_M} {l e cap : Nat} {E : Nat → Option Nat}
theorem x_As_newLength (d : Nat) {a b c : Nat} (h : a + b + c < 2 ^ 30) (h1 : 1 ≤ b) : j_ex tb (d + 1) m_As_newLength [.int (nI a), .int (nI b), .int (nI c)] mem (.inl (some (.int (nI (a + (if b < c then c else b)))))) mem := by
  have hx : (if b < c then c else b) < 2 ^ 30 ∧ 1 ≤ (if b < c then c else b) ∧ a + (if b < c then c else b) < 2 ^ 30 := by split <;> omega
  have e1 := w_max (a := b) (b := c) (by omega) (by omega)
  generalize (if b < c then c else b) = z at *
  have e2 : nI a + nI z = nI (a + z) := nI_add _ _
  rw [← e2, ← e1]
  have e3 : nI a + (if nI b < nI c then nI c else nI b) = nI (a + z) := by rw [e1, e2]
  refine ⟨e_As_newLength, rfl, Nat.le_of_ble_eq_true rfl, ?_⟩
  repeat (first | refine ev_go rfl (by rfl) ?_ | refine ev_gf rfl (by assumption) (by rfl) (by rfl) ?_)
  refine ev_icF rfl (by
    show decide (_ ≤ (0 : Int32)) = false
    exact decide_eq_false (by
      show ¬ nI a + (if nI b < nI c then nI c else nI b) ≤ 0
      rw [e3]
      exact nI_nle (by omega) (by omega))) ?_
  repeat (first | refine ev_go rfl (by rfl) ?_ | refine ev_gf rfl (by assumption) (by rfl) (by rfl) ?_)
  refine ev_icF rfl (by
    exact decide_eq_false (by
      show ¬ (2147483639 : Int32) < nI a + (if nI b < nI c then nI c else nI b)
      rw [e3]
      exact nI_nlt (a := 2147483639) (b := a + z) (by omega) (by omega))) ?_
  repeat (first | refine ev_go rfl (by rfl) ?_ | refine ev_gf rfl (by assumption) (by rfl) (by rfl) ?_)
  exact j_ev.ret rfl
theorem x_copyOf (d : Nat) {n' : Nat} (h4 : 4 ≤ e) (he : mem.2.2 e = some (aE cap E)) (hm : e ≠ mem.1) (h5 : 4 ≤ mem.1) (hn : cap ≤ n') (hn2 : n' < 50000000) (hE : j_allq (j_new mem n' (some (aE n' (fun _ => none)))) E 0 cap = true) :
    j_ex tb (d + 2) m_Ar_copyOf_2aLj [.ref e, .int (nI n')] mem (.inl (some (.ref mem.1))) (j_new mem n' (some (aE n' (va_cpy E (fun _ => none) 0 0 cap)))) := by
  have k3 : j_ex tb (d + 1) m_Ar_copyOf_3 [.ref e, .int (nI n'), .ref 3] mem (.inl (some (.ref mem.1))) (j_new mem n' (some (aE n' (va_cpy E (fun _ => none) 0 0 cap)))) := by
    have hcl : (nI n').toNatClampNeg = n' := nI_clamp (by omega)
    have g1 : (j_new mem n' (some (aE n' (fun _ => none)))).2.2 e = some (aE cap E) := by rw [nw_ne _ _ _ hm]; exact he
    have g2 : (j_new mem n' (some (aE n' (fun _ => none)))).2.2 mem.1 = some (aE n' (fun _ => none)) := nw_same _ _ _
    refine ⟨e_Ar_copyOf_3, rfl, Nat.le_of_ble_eq_true rfl, ?_⟩
    repeat (first | refine ev_go rfl (by rfl) ?_ | refine ev_gf rfl (by assumption) (by rfl) (by rfl) ?_)
    refine ev_na rfl (by
      rw [hcl, decide_eq_false (nI_pos (by omega)), Nat.ble_eq.mpr (by omega)]
      rfl) ?_
    rw [hcl]
    refine ev_m (mem' := j_new mem n' (some (aE n' (fun _ => none)))) rfl ?_
    repeat (first | refine ev_go rfl (by rfl) ?_ | refine ev_gf rfl (by assumption) (by rfl) (by rfl) ?_)
    refine ev_an rfl g1 (by rfl) ?_
    repeat (first | refine ev_go rfl (by rfl) ?_ | refine ev_gf rfl (by assumption) (by rfl) (by rfl) ?_)
    refine ev_s (st' := [.int (nI cap), .int (nI 0), .ref mem.1, .int (nI 0), .ref e]) (by
      have := w_min (a := cap) (b := n') (by omega) (by omega)
      rw [if_neg (show ¬ n' < cap by omega)] at this
      rw [← this]; rfl) ?_
    refine ev_cpqN rfl g1 g2 (by omega) (by omega) (by omega) (by omega) (by omega) h4 h5 (by decide) hE ?_
    rw [nw_st]
    repeat (first | refine ev_go rfl (by rfl) ?_ | refine ev_gf rfl (by assumption) (by rfl) (by rfl) ?_)
    exact j_ev.ret rfl
  refine ⟨e_Ar_copyOf_2aLj, rfl, Nat.le_of_ble_eq_true rfl, ?_⟩
  repeat (first | refine ev_go rfl (by rfl) ?_ | refine ev_gf rfl (by assumption) (by rfl) (by rfl) ?_)
  refine ev_gc rfl he (Nat.ble_eq.mpr h4) (by rfl) ?_
  refine j_ev.call rfl (k3) ?_
  exact j_ev.ret rfl
/-- a full list grows -/
theorem x_AL_grow (d : Nat) {md : Int32} (h1 : mem.2.2 l = some (.inr (10, [.int md, .ref e, .int (nI cap)]))) (he : mem.2.2 e = some (aE cap E)) (h0 : cap = 0 → e = 2) (h4 : cap ≠ 0 → 78 ≤ e ∧ e < mem.1) (hl : l < mem.1) (h78 : 78 ≤ mem.1) (hc : cap < 2 ^ 20)
    (hE : ∀ i, i < cap → ∃ y fs, E i = some y ∧ 4 ≤ y ∧ y < mem.1 ∧ mem.2.2 y = some (.inr (9, fs))) :
    ∃ cap' E', cap < cap' ∧ cap' ≤ 2 * cap + 10 ∧ (∀ i, i < cap → E' i = E i) ∧ j_ex tb (d + 4) m_AL_grow_0 [.ref l] mem (.inl (some (.ref mem.1))) (j_set (j_new mem cap' (some (aE cap' E'))) l (.inr (10, [.int md, .ref mem.1, .int (nI cap)]))) := by
  have wrap : ∀ mem', j_ex tb (d + 3) m_AL_grow_1 [.ref l, .int (nI (cap + 1))] mem (.inl (some (.ref mem.1))) mem' → j_ex tb (d + 4) m_AL_grow_0 [.ref l] mem (.inl (some (.ref mem.1))) mem' := by
    intro mem' k
    rw [← nI_1 cap] at k
    refine ⟨e_AL_grow_0, rfl, Nat.le_of_ble_eq_true rfl, ?_⟩
    repeat (first | refine ev_go rfl (by rfl) ?_ | refine ev_gf rfl (by assumption) (by rfl) (by rfl) ?_)
    refine ev_cv (as := [.int (nI cap + 1)]) rfl rfl rfl (by assumption) (by rfl) (by rfl) (k) ?_
    exact j_ev.ret rfl
  by_cases c0 : cap = 0
  · have e2 := h0 c0
    subst c0
    subst e2
    refine ⟨10, fun _ => none, by omega, by omega, fun i hi => by omega, wrap _ ?_⟩
    have g1 : (j_new mem 10 (some (aE 10 (fun _ => none)))).2.2 l = some (.inr (10, [.int md, .ref 2, .int (nI 0)])) := by rw [nw_ne _ _ _ (by omega)]; exact h1
    refine ⟨e_AL_grow_1, rfl, Nat.le_of_ble_eq_true rfl, ?_⟩
    repeat (first | refine ev_go rfl (by rfl) ?_ | refine ev_gf rfl (by assumption) (by rfl) (by rfl) ?_)
    refine ev_an rfl he (by rfl) ?_
    repeat (first | refine ev_go rfl (by rfl) ?_ | refine ev_gf rfl (by assumption) (by rfl) (by rfl) ?_)
    refine ev_pf rfl g1 (by rfl) (by rfl) (by rfl) ?_
    exact j_ev.ret rfl
  · obtain ⟨e78, em⟩ := h4 c0
    have hz : (if 1 < cap / 2 then cap / 2 else 1) < 2 ^ 20 ∧ 1 ≤ (if 1 < cap / 2 then cap / 2 else 1) ∧ (if 1 < cap / 2 then cap / 2 else 1) ≤ cap := by split <;> omega
    have kn := x_As_newLength (mem := mem) (d + 1) (a := cap) (b := 1) (c := cap / 2) (by omega) (by omega)
    generalize (if 1 < cap / 2 then cap / 2 else 1) = z at *
    refine ⟨cap + z, va_cpy E (fun _ => none) 0 0 cap, by omega, by omega, fun i hi => by rw [pk_cpy_in (by omega) (by omega)]; congr 1; omega, wrap _ ?_⟩
    have kc := x_copyOf (mem := mem) (d + 0) (n' := cap + z) (by omega) he (by omega) (by omega) (by omega) (by omega) (by
      unfold j_allq
      refine List.all_eq_true.mpr fun i hi => ?_
      obtain ⟨y, fs, q1, q2, q3, q4⟩ := hE i (List.mem_range.mp hi)
      rw [Nat.zero_add, q1]
      show (j_fit 6 ((j_new mem (cap + z) _).2.2 y) && Nat.ble 4 y) = true
      rw [nw_ne _ _ _ (by omega), q4, Nat.ble_eq.mpr q2]
      rfl)
    have g1 : ∀ x, (j_new mem (cap + z) x).2.2 l = some (.inr (10, [.int md, .ref e, .int (nI cap)])) := fun x => by rw [nw_ne _ _ _ (by omega)]; exact h1
    have g2 := g1 (some (aE (cap + z) (va_cpy E (fun _ => none) 0 0 cap)))
    have e1 : nI (cap + 1) - nI cap = nI 1 := by rw [pk_sub (by omega)]; congr 1; omega
    have e2 : nI cap >>> ((1 : Int32) &&& 31) = nI (cap / 2) := pk_shrN (by omega) _ 1 (by decide)
    rw [← e1, ← e2] at kn
    refine ⟨e_AL_grow_1, rfl, Nat.le_of_ble_eq_true rfl, ?_⟩
    repeat (first | refine ev_go rfl (by rfl) ?_ | refine ev_gf rfl (by assumption) (by rfl) (by rfl) ?_)
    refine ev_an rfl he (by rfl) ?_
    repeat (first | refine ev_go rfl (by rfl) ?_ | refine ev_gf rfl (by assumption) (by rfl) (by rfl) ?_)
    refine ev_ifT rfl (by exact b_lt (a := 0) (b := cap) (by omega) (by omega) (by omega)) ?_
    repeat (first | refine ev_go rfl (by rfl) ?_ | refine ev_gf rfl (by assumption) (by rfl) (by rfl) ?_)
    refine j_ev.call rfl (kn) ?_
    repeat (first | refine ev_go rfl (by rfl) ?_ | refine ev_gf rfl (by assumption) (by rfl) (by rfl) ?_)
    refine j_ev.call rfl (kc) ?_
    repeat (first | refine ev_go rfl (by rfl) ?_ | refine ev_gf rfl (by assumption) (by rfl) (by rfl) ?_)
    refine ev_pf rfl g2 (by rfl) (by rfl) (by rfl) ?_
    exact j_ev.ret rfl
end GROW
