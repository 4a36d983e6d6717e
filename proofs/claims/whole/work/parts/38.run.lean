/-! RUN: firstNotBefore; MEMORY (own text) -/
/-- the same six words -/
def sw (f g : Nat → Int64) : Prop := ∀ j, j < 6 → f j = g j
theorem sw_refl (f : Nat → Int64) : sw f f := fun _ _ => rfl
theorem sw_all {f g : Nat → Int64} (h : sw f g) : v_num f = v_num g ∧ uN (f 5) = uN (g 5) := by
  refine ⟨?_, by rw [h 5 (by omega)]⟩
  unfold v_num
  rw [h 0 (by omega), h 1 (by omega), h 2 (by omega), h 3 (by omega), h 4 (by omega)]
theorem sw_key {f g : Nat → Int64} (h : sw f g) : v_key f = v_key g := by
  unfold v_key v_len
  rw [(sw_all h).1, (sw_all h).2]
theorem sw_mom {f g : Nat → Int64} (h : sw f g) : v_mom f = v_mom g := by
  unfold v_mom
  rw [(sw_all h).2]
theorem sw_th {f g : Nat → Int64} (h : sw f g) : v_th f = v_th g := by
  unfold v_th
  rw [(sw_all h).2]
theorem sw_ord {f g : Nat → Int64} (h : sw f g) : v_ord f = v_ord g := by
  unfold v_ord
  rw [sw_key h, sw_mom h]
/-- a version's words in memory -/
def vW (f : Nat → Int64) : j_C := .inl (1, 6, .inr (.inl f))
/-- what a run's methods are: count, load, by its class -/
def rC (c : Nat) : Nat := if c = 5 then m_Lv_count else m_Me_count
def rL (c : Nat) : Nat := if c = 5 then m_Lv_load else m_Me_load
theorem x_Ru_fnb (d : Nat) {mem : j_M} {r c vm wm vt wt N : Nat} {fs : List Value} {fm ft : Nat → Int64} (at' : Nat → Nat → Int64)
    (hc : c = 4 ∨ c = 5) (hr : mem.2.2 r = some (.inr (c, .ref vm :: fs))) (hm : Ve mem vm wm fm) (ht : Ve mem vt wt ft) (n1 : wt ≠ wm) (n2 : vt ≠ wm) (n3 : vm ≠ wm) (n4 : r ≠ wm) (hN : N < 2 ^ 30)
    (hs : ∀ i j, i < j → j < N → v_ord (at' i) ≤ v_ord (at' j))
    (hcount : j_ex tb (d + 7) (rC c) [.ref r] mem (.inl (some (.int (nI N)))) mem)
    (hload : ∀ g i, i < N → ∃ f', sw f' (at' i) ∧ j_ex tb (d + 7) (rL c) [.ref r, .int (nI i), .ref vm] (j_set mem wm (vW g)) (.inl none) (j_set mem wm (vW f'))) :
    ∃ k f'', k ≤ N ∧ (∀ i, i < k → v_ord (at' i) < v_ord ft) ∧ (∀ i, k ≤ i → i < N → v_ord ft ≤ v_ord (at' i)) ∧ j_ex tb (d + 8) m_Ru_firstNotBefore [.ref r, .ref vt] mem (.inl (some (.int (nI k)))) (j_set mem wm (vW f'')) := by
  have loop : ∀ (q wd0 first : Nat) (g : Nat → Int64) (x4 : Option Value), wd0 ≤ q → first + wd0 ≤ N → (∀ i, i < first → v_ord (at' i) < v_ord ft) → (∀ i, first + wd0 ≤ i → i < N → v_ord ft ≤ v_ord (at' i)) →
      ∃ k f'', k ≤ N ∧ (∀ i, i < k → v_ord (at' i) < v_ord ft) ∧ (∀ i, k ≤ i → i < N → v_ord ft ≤ v_ord (at' i)) ∧ j_ev (d + 8) (j_ex tb (d + 7)) (j_tab q_Ru_firstNotBefore) [] (.inl (some (.int (nI k)))) (j_set mem wm (vW f'')) 7 [some (.ref r), some (.ref vt), some (.int (nI first)), some (.int (nI wd0)), x4] [] (j_set mem wm (vW g)) := by
    intro q
    induction q with
    | zero =>
      intro wd0 first g x4 h1 h2 h3 h4
      have : wd0 = 0 := by omega
      subst this
      refine ⟨first, g, by omega, h3, fun i hi hi2 => h4 i (by omega) hi2, ?_⟩
      repeat (first | refine ev_go rfl (by rfl) ?_ | refine ev_gf rfl (by assumption) (by rfl) (by rfl) ?_)
      exact j_ev.ret rfl
    | succ q ih =>
      intro wd0 first g x4 h1 h2 h3 h4
      by_cases c0 : wd0 = 0
      · subst c0
        refine ⟨first, g, by omega, h3, fun i hi hi2 => h4 i (by omega) hi2, ?_⟩
        repeat (first | refine ev_go rfl (by rfl) ?_ | refine ev_gf rfl (by assumption) (by rfl) (by rfl) ?_)
        exact j_ev.ret rfl
      · obtain ⟨f', hf', kl⟩ := hload g (first + wd0 / 2) (by omega)
        have ho : v_ord f' = v_ord (at' (first + wd0 / 2)) := sw_ord hf'
        have hr1 : ∀ x, (j_set mem wm x).2.2 r = some (.inr (c, .ref vm :: fs)) := fun x => by rw [st_ne _ _ n4]; exact hr
        have hV1 : Ve (j_set mem wm (vW f')) vm wm f' := ⟨by rw [st_ne _ _ n3]; exact hm.1, st_same _ _ _⟩
        have hV2 : Ve (j_set mem wm (vW f')) vt wt ft := ⟨by rw [st_ne _ _ n2]; exact ht.1, by rw [st_ne _ _ n1]; exact ht.2⟩
        have kb := x_Ve_isBefore (d + 4) hV1 hV2
        have hv1 := hV1.1
        have e1 : nI wd0 >>> ((1 : Int32) &&& 31) = nI (wd0 / 2) := pk_shrN (by omega) _ 1 (by decide)
        have e2 : nI first + nI (wd0 / 2) = nI (first + wd0 / 2) := nI_add _ _
        have pre : ∀ (o : j_O) (mo : j_M), j_ev (d + 8) (j_ex tb (d + 7)) (j_tab q_Ru_firstNotBefore) [] (o) (mo) 36 [some (.ref r), some (.ref vt), some (.int (nI first)), some (.int (nI wd0)), some (.int (nI (wd0 / 2)))] [.int (if v_ord f' < v_ord ft then 1 else 0)] (j_set mem wm (vW f')) →
            j_ev (d + 8) (j_ex tb (d + 7)) (j_tab q_Ru_firstNotBefore) [] (o) (mo) 7 [some (.ref r), some (.ref vt), some (.int (nI first)), some (.int (nI wd0)), x4] [] (j_set mem wm (vW g)) := by
          intro o mo kk
          have hr2 := hr1 (vW g)
          have hr3 := hr1 (vW f')
          rw [← e1] at kk
          rw [← e2, ← e1] at kl
          rcases hc with rfl | rfl
          · repeat (first | refine ev_go rfl (by rfl) ?_ | refine ev_gf rfl (by assumption) (by rfl) (by rfl) ?_)
            refine ev_ifF rfl (by exact b_nle (a := wd0) (b := 0) (by omega) (by omega) (by omega)) ?_
            repeat (first | refine ev_go rfl (by rfl) ?_ | refine ev_gf rfl (by assumption) (by rfl) (by rfl) ?_)
            refine ev_cv (as := [.int (nI first + nI wd0 >>> ((1 : Int32) &&& 31)), .ref vm]) rfl rfl rfl (by assumption) (by rfl) (by rfl) (kl) ?_
            repeat (first | refine ev_go rfl (by rfl) ?_ | refine ev_gf rfl (by assumption) (by rfl) (by rfl) ?_)
            refine ev_cv (as := [.ref vt]) rfl rfl rfl (by assumption) (by rfl) (by rfl) (kb) ?_
            exact kk
          · repeat (first | refine ev_go rfl (by rfl) ?_ | refine ev_gf rfl (by assumption) (by rfl) (by rfl) ?_)
            refine ev_ifF rfl (by exact b_nle (a := wd0) (b := 0) (by omega) (by omega) (by omega)) ?_
            repeat (first | refine ev_go rfl (by rfl) ?_ | refine ev_gf rfl (by assumption) (by rfl) (by rfl) ?_)
            refine ev_cv (as := [.int (nI first + nI wd0 >>> ((1 : Int32) &&& 31)), .ref vm]) rfl rfl rfl (by assumption) (by rfl) (by rfl) (kl) ?_
            repeat (first | refine ev_go rfl (by rfl) ?_ | refine ev_gf rfl (by assumption) (by rfl) (by rfl) ?_)
            refine ev_cv (as := [.ref vt]) rfl rfl rfl (by assumption) (by rfl) (by rfl) (kb) ?_
            exact kk
        by_cases cb : v_ord f' < v_ord ft
        · rw [if_pos cb] at pre
          obtain ⟨k, f'', a1, a2, a3, a4⟩ := ih (wd0 - (wd0 / 2 + 1)) (first + (wd0 / 2 + 1)) f' (some (.int (nI (wd0 / 2)))) (by omega) (by omega) (fun i hi => by
              by_cases c2 : i = first + wd0 / 2
              · subst c2; omega
              · have := hs i (first + wd0 / 2) (by omega) (by omega)
                omega) (fun i hi hi2 => h4 i (by omega) hi2)
          refine ⟨k, f'', a1, a2, a3, pre _ _ ?_⟩
          rw [← pk_sub (a := wd0) (b := wd0 / 2 + 1) (by omega), ← nI_add first (wd0 / 2 + 1), ← nI_1 (wd0 / 2)] at a4
          refine ev_ifF rfl (by rfl) ?_
          repeat (first | exact a4 | refine ev_go rfl (by rfl) ?_ | refine ev_gf rfl (by assumption) (by rfl) (by rfl) ?_)
        · rw [if_neg cb] at pre
          obtain ⟨k, f'', a1, a2, a3, a4⟩ := ih (wd0 / 2) first f' (some (.int (nI (wd0 / 2)))) (by omega) (by omega) h3 (fun i hi hi2 => by
              by_cases c2 : i = first + wd0 / 2
              · subst c2; omega
              · have := hs (first + wd0 / 2) i (by omega) (by omega)
                omega)
          refine ⟨k, f'', a1, a2, a3, pre _ _ ?_⟩
          refine ev_ifT rfl (by rfl) ?_
          repeat (first | exact a4 | refine ev_go rfl (by rfl) ?_ | refine ev_gf rfl (by assumption) (by rfl) (by rfl) ?_)
  obtain ⟨k, f'', a1, a2, a3, a4⟩ := loop N N 0 fm none (by omega) (by omega) (fun i hi => by omega) (fun i hi hi2 => by omega)
  refine ⟨k, f'', a1, a2, a3, ?_⟩
  rw [show j_set mem wm (vW fm) = mem from st_id hm.2] at a4
  rcases hc with rfl | rfl
  · refine ⟨e_Ru_firstNotBefore, rfl, Nat.le_of_ble_eq_true rfl, ?_⟩
    repeat (first | refine ev_go rfl (by rfl) ?_ | refine ev_gf rfl (by assumption) (by rfl) (by rfl) ?_)
    refine ev_cv (as := []) rfl rfl rfl (by assumption) (by rfl) (by rfl) (hcount) ?_
    repeat (first | exact a4 | refine ev_go rfl (by rfl) ?_ | refine ev_gf rfl (by assumption) (by rfl) (by rfl) ?_)
  · refine ⟨e_Ru_firstNotBefore, rfl, Nat.le_of_ble_eq_true rfl, ?_⟩
    repeat (first | refine ev_go rfl (by rfl) ?_ | refine ev_gf rfl (by assumption) (by rfl) (by rfl) ?_)
    refine ev_cv (as := []) rfl rfl rfl (by assumption) (by rfl) (by rfl) (hcount) ?_
    repeat (first | exact a4 | refine ev_go rfl (by rfl) ?_ | refine ev_gf rfl (by assumption) (by rfl) (by rfl) ?_)
