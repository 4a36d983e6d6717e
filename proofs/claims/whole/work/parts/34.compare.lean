/-! VERSION: compareKey, isBefore (own text) -/
theorem v_num_ord {f g : Nat → Int64} {i : Nat} (hi : i < 5) (heq : ∀ j, j < i → uN (f j) = uN (g j)) (hlt : uN (f i) < uN (g i)) : v_key f < v_key g := by
  have a0 := uN_lt (f 0); have a1 := uN_lt (f 1); have a2 := uN_lt (f 2); have a3 := uN_lt (f 3); have a4 := uN_lt (f 4)
  have b0 := uN_lt (g 0); have b1 := uN_lt (g 1); have b2 := uN_lt (g 2); have b3 := uN_lt (g 3); have b4 := uN_lt (g 4)
  have l1 := v_len_lt f
  have l2 := v_len_lt g
  unfold v_key v_num
  generalize v_len f = lf at *
  generalize v_len g = lg at *
  have : i = 0 ∨ i = 1 ∨ i = 2 ∨ i = 3 ∨ i = 4 := by omega
  rcases this with rfl | rfl | rfl | rfl | rfl
  · omega
  · have e0 := heq 0 (by omega)
    omega
  · have e0 := heq 0 (by omega); have e1 := heq 1 (by omega)
    omega
  · have e0 := heq 0 (by omega); have e1 := heq 1 (by omega); have e2 := heq 2 (by omega)
    omega
  · have e0 := heq 0 (by omega); have e1 := heq 1 (by omega); have e2 := heq 2 (by omega); have e3 := heq 3 (by omega)
    omega
theorem v_num_eq {f g : Nat → Int64} (heq : ∀ j, j < 5 → uN (f j) = uN (g j)) : v_num f = v_num g := by
  unfold v_num
  rw [heq 0 (by omega), heq 1 (by omega), heq 2 (by omega), heq 3 (by omega), heq 4 (by omega)]
theorem w_sub_sgn {a b : Nat} (ha : a < 4096) (hb : b < 4096) : (nI a - nI b < 0 ↔ a < b) ∧ (nI a - nI b = 0 ↔ a = b) := by
  have h := pk_sub_toInt (a := a) (b := b) (by omega) (by omega)
  refine ⟨?_, ?_⟩
  · rw [Int32.lt_iff_toInt_lt, h, Int32.toInt_zero]; omega
  · rw [← Int32.toInt_inj, h, Int32.toInt_zero]; omega
theorem i_in {i n : Nat} (h : i < n) (hn : n < 2 ^ 31) : j_in (nI i) n = true := by
  have h1 : ¬ nI i < 0 := by
    rw [Int32.lt_iff_toInt_lt, nI_toInt (by omega), Int32.toInt_zero]; omega
  unfold j_in
  rw [decide_eq_false h1, nI_clamp (by omega), Nat.blt_eq.mpr h]
  rfl
theorem x_Ve_compareKey (d : Nat) {mem : j_M} {v w v2 w2 : Nat} {f g : Nat → Int64} (h : Ve mem v w f) (h2 : Ve mem v2 w2 g) : ∃ r : Int32, j_ex tb (d + 2) m_Ve_compareKey [.ref v, .ref v2] mem (.inl (some (.int r))) mem ∧ (r < 0 ↔ v_key f < v_key g) ∧ (r = 0 ↔ v_key f = v_key g) := by
  have loop : ∀ (n i : Nat) (x3 x5 : Option Value), i + n = 5 → (∀ j, j < i → uN (f j) = uN (g j)) → ∃ r : Int32, j_ev (d + 2) (j_ex tb (d + 1)) (j_tab q_Ve_compareKey) [] (.inl (some (.int r))) mem 2 [some (.ref v), some (.ref v2), some (.int (nI i)), x3, none, x5, none] [] mem ∧ (r < 0 ↔ v_key f < v_key g) ∧ (r = 0 ↔ v_key f = v_key g) := by
    intro n
    induction n with
    | zero =>
      intro i x3 x5 hin heq
      have hi : i = 5 := by omega
      subst hi
      have hn := v_num_eq heq
      have hs := w_sub_sgn (v_len_lt f) (v_len_lt g)
      refine ⟨nI (v_len f) - nI (v_len g), ?_, ?_, ?_⟩
      · iterate 2 refine j_ev.go rfl ?_
        refine ev_icT rfl rfl ?_
        refine j_ev.go rfl ?_
        refine ev_cv (as := []) rfl rfl rfl h.1 rfl rfl (x_Ve_length d h) ?_
        refine j_ev.go rfl ?_
        refine ev_cv (as := []) rfl rfl rfl h2.1 rfl rfl (x_Ve_length d h2) ?_
        refine j_ev.go rfl ?_
        exact j_ev.ret rfl
      · rw [hs.1]; unfold v_key; rw [hn]; omega
      · rw [hs.2]; unfold v_key; rw [hn]; omega
    | succ n ih =>
      intro i x3 x5 hin heq
      have hi : i < 5 := by omega
      have hc := w_cmp (f i) (g i)
      have hcl : (nI i).toNatClampNeg = i := nI_clamp (by omega)
      have hbr : decide ((5 : Int32) ≤ nI i) = false := decide_eq_false (by
        rw [show (5 : Int32) = nI 5 from rfl, nI_leI (by omega) (by omega)]; omega)
      have pre : ∀ (r : Int32) , j_ev (d + 2) (j_ex tb (d + 1)) (j_tab q_Ve_compareKey) [] (.inl (some (.int r))) mem 34 [some (.ref v), some (.ref v2), some (.int (nI i)), some (.long (f i ^^^ (-9223372036854775808))), none, some (.long (g i ^^^ (-9223372036854775808))), none] [.int (lg_cmp (f i ^^^ (-9223372036854775808)) (g i ^^^ (-9223372036854775808)))] mem →
          j_ev (d + 2) (j_ex tb (d + 1)) (j_tab q_Ve_compareKey) [] (.inl (some (.int r))) mem 2 [some (.ref v), some (.ref v2), some (.int (nI i)), x3, none, x5, none] [] mem := by
        intro r k
        iterate 2 refine j_ev.go rfl ?_
        refine ev_icF rfl hbr ?_
        refine j_ev.go rfl ?_
        refine ev_gf rfl h.1 rfl rfl ?_
        refine j_ev.go rfl ?_
        refine ev_alj rfl h.2 (i_in (by omega) (by omega)) ?_
        rw [hcl]
        iterate 4 refine j_ev.go rfl ?_
        refine ev_gf rfl h2.1 rfl rfl ?_
        refine j_ev.go rfl ?_
        refine ev_alj rfl h2.2 (i_in (by omega) (by omega)) ?_
        rw [hcl]
        iterate 6 refine j_ev.go rfl ?_
        exact k
      by_cases he : uN (f i) = uN (g i)
      · obtain ⟨r, k1, k2⟩ := ih (i + 1) (some (.long (f i ^^^ (-9223372036854775808)))) (some (.long (g i ^^^ (-9223372036854775808)))) (by omega) (fun j hj => by
          rcases Nat.lt_succ_iff_lt_or_eq.mp hj with hj | rfl
          · exact heq j hj
          · exact he)
        refine ⟨r, pre r ?_, k2⟩
        refine ev_ifT rfl (decide_eq_true (hc.1.mpr he)) ?_
        rw [← nI_1 i] at k1
        iterate 2 refine j_ev.go rfl ?_
        exact k1
      · by_cases hlt : uN (f i) < uN (g i)
        · have hk := v_num_ord hi heq hlt
          refine ⟨-1, pre (-1) ?_, ⟨fun _ => hk, fun _ => by decide⟩, ⟨fun q => absurd q (by decide), fun q => by omega⟩⟩
          refine ev_ifF rfl (decide_eq_false (fun q => he (hc.1.mp q))) ?_
          iterate 3 refine j_ev.go rfl ?_
          refine ev_ifF rfl (decide_eq_false (fun q => absurd (hc.2.mp q) (by omega))) ?_
          iterate 2 refine j_ev.go rfl ?_
          exact j_ev.ret rfl
        · have hk := v_num_ord hi (fun j hj => (heq j hj).symm) (show uN (g i) < uN (f i) by omega)
          refine ⟨1, pre 1 ?_, ⟨fun q => absurd q (by decide), fun q => by omega⟩, ⟨fun q => absurd q (by decide), fun q => by omega⟩⟩
          refine ev_ifF rfl (decide_eq_false (fun q => he (hc.1.mp q))) ?_
          iterate 3 refine j_ev.go rfl ?_
          refine ev_ifT rfl (decide_eq_true (hc.2.mpr (by omega))) ?_
          refine j_ev.go rfl ?_
          exact j_ev.ret rfl
  obtain ⟨r, k1, k2⟩ := loop 5 0 none none rfl (fun j hj => by omega)
  refine ⟨r, ⟨e_Ve_compareKey, rfl, Nat.le_of_ble_eq_true rfl, ?_⟩, k2⟩
  iterate 2 refine j_ev.go rfl ?_
  exact k1
theorem x_Ve_isBefore (d : Nat) {mem : j_M} {v w v2 w2 : Nat} {f g : Nat → Int64} (h : Ve mem v w f) (h2 : Ve mem v2 w2 g) : j_ex tb (d + 3) m_Ve_isBefore [.ref v, .ref v2] mem (.inl (some (.int (if v_ord f < v_ord g then 1 else 0)))) mem := by
  obtain ⟨r, k1, k2, k3⟩ := x_Ve_compareKey d h h2
  have m1 : v_mom f < 1024 := Nat.mod_lt _ (by decide)
  have m2 : v_mom g < 1024 := Nat.mod_lt _ (by decide)
  refine ⟨e_Ve_isBefore, rfl, Nat.le_of_ble_eq_true rfl, ?_⟩
  iterate 2 refine j_ev.go rfl ?_
  refine ev_cv (as := [.ref v2]) rfl rfl rfl h.1 rfl rfl k1 ?_
  iterate 2 refine j_ev.go rfl ?_
  by_cases c1 : v_key f < v_key g
  · have ho : v_ord f < v_ord g := by unfold v_ord; omega
    rw [if_pos ho]
    refine ev_ifT rfl (decide_eq_true (k2.mpr c1)) ?_
    iterate 2 refine j_ev.go rfl ?_
    exact j_ev.ret rfl
  · refine ev_ifF rfl (decide_eq_false (fun q => c1 (k2.mp q))) ?_
    refine j_ev.go rfl ?_
    by_cases c2 : v_key f = v_key g
    · refine ev_ifF rfl (decide_eq_false (fun q => q (k3.mpr c2))) ?_
      refine j_ev.go rfl ?_
      refine ev_cv (as := []) rfl rfl rfl h.1 rfl rfl (x_Ve_moment (d + 1) h) ?_
      refine j_ev.go rfl ?_
      refine ev_cv (as := []) rfl rfl rfl h2.1 rfl rfl (x_Ve_moment (d + 1) h2) ?_
      by_cases c3 : v_mom f < v_mom g
      · have ho : v_ord f < v_ord g := by unfold v_ord; omega
        rw [if_pos ho]
        refine ev_icF rfl (decide_eq_false (by rw [nI_leI (by omega) (by omega)]; omega)) ?_
        iterate 2 refine j_ev.go rfl ?_
        exact j_ev.ret rfl
      · have ho : ¬ v_ord f < v_ord g := by unfold v_ord; omega
        rw [if_neg ho]
        refine ev_icT rfl (decide_eq_true (by rw [nI_leI (by omega) (by omega)]; omega)) ?_
        refine j_ev.go rfl ?_
        exact j_ev.ret rfl
    · have ho : ¬ v_ord f < v_ord g := by unfold v_ord; omega
      rw [if_neg ho]
      refine ev_ifT rfl (decide_eq_true (fun q => c2 (k3.mp q))) ?_
      refine j_ev.go rfl ?_
      exact j_ev.ret rfl
