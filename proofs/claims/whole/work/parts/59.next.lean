/-! LEVELTABLES: nextMoment (own text) -/
def nonaf (cnt : Nat → Nat) (W : Nat → Nat → Nat → Int64) (r key m : Nat) : Prop := ∀ j, j < cnt r → v_key (W r j) = key → v_mom (W r j) ≤ m
def oldest (cnt : Nat → Nat) (W : Nat → Nat → Nat → Int64) (r key m i : Nat) : Prop := i < cnt r ∧ v_key (W r i) = key ∧ m < v_mom (W r i) ∧ ∀ j, j < cnt r → v_key (W r j) = key → m < v_mom (W r j) → v_ord (W r i) ≤ v_ord (W r j)
theorem x_LT_next (d : Nat) {mem : j_M} {sh lv : Int32} {cnt : Nat → Nat} {W : Nat → Nat → Nat → Int64} {v l0 : Nat} {fv : Nat → Int64} (hLT : LT mem sh lv) (hru : ∃ Hr, mem.2.2 19 = some (.inl (4, 5, .inr (.inr (.inr (.inr Hr))))) ∧ ∀ r, r < 5 → Hr r = some (ra r)) (hRd : Rd mem cnt W) (hFb : Fb mem cnt W) (hs : ∀ r, r < 5 → ∀ i j, i < j → j < cnt r → v_ord (W r i) ≤ v_ord (W r j)) (hVs : Vs mem)
    (hv : v = 20 ∨ v = 52) (hvf : Ve mem v (v + 1) fv) (hm : v_mom fv < 1000) (hl0 : l0 < 5) :
    ∃ mem' u, j_ex tb (d + 9) m_LT_nextMoment [.ref 4, .ref v, .int (nI l0)] mem (.inl (some (.int (nI u)))) mem' ∧ Hf mem mem' ∧ Vs mem' ∧
      ((u = 1023 ∧ ∀ r, r ≤ l0 → nonaf cnt W r (v_key fv) (v_mom fv)) ∨ ∃ r i, r ≤ l0 ∧ oldest cnt W r (v_key fv) (v_mom fv) i ∧ (∀ r', r < r' → r' ≤ l0 → nonaf cnt W r' (v_key fv) (v_mom fv)) ∧ u = v_mom (W r i)) := by
  obtain ⟨Hr, hr19, hrr⟩ := hru
  obtain ⟨ft0, ht0⟩ := hVs 22 (by unfold vcell; omega)
  have ct := v_tg (f := fv) (g := ft0) (m := v_mom fv + 1) (by omega)
  have kc := x_Ve_copy (d + 7) ht0 hvf (by omega) (by omega)
  have ht1 : Ve (j_set mem 23 (vW (va_cpy fv ft0 0 0 6))) 22 23 (va_cpy fv ft0 0 0 6) := ⟨ht0.1, rfl⟩
  have hvf1 : Ve (j_set mem 23 (vW (va_cpy fv ft0 0 0 6))) v (v + 1) fv := ⟨by rw [st_ne _ _ (by omega)]; exact hvf.1, by rw [st_ne _ _ (by omega)]; exact hvf.2⟩
  have kmo := x_Ve_moment (d + 7) hvf1
  have km := x_Ve_setMoment (d + 5) (m := v_mom fv + 1) ht1 (by omega) (by omega)
  rw [st_st] at km
  change j_ex tb (d + 5 + 3) m_Ve_setMoment [.ref 22, .int (nI (v_mom fv + 1))] (j_set mem 23 (vW (va_cpy fv ft0 0 0 6))) (.inl none) (j_set mem 23 (vW (v_at (va_cpy fv ft0 0 0 6) (v_mom fv + 1)))) at km
  generalize hft : v_at (va_cpy fv ft0 0 0 6) (v_mom fv + 1) = ft at *
  have ml : ∀ f, v_mom f < 1024 := fun f => Nat.mod_lt _ (by decide)
  have vo : ∀ f, v_ord f = v_key f * 1024 + v_mom f := fun f => rfl
  have loop : ∀ (q : Nat) (m1 : j_M) (x : Option Value), q ≤ l0 + 1 → Hf mem m1 → Vs m1 → Ve m1 22 23 ft → (∀ r', q ≤ r' → r' ≤ l0 → nonaf cnt W r' (v_key fv) (v_mom fv)) →
      ∃ mem' u, j_ev (d + 9) (j_ex tb (d + 8)) (j_tab q_LT_nextMoment) [] (.inl (some (.int (nI u)))) (mem') 23 [some (.ref 4), some (.ref v), some (.int (nI l0)), some (.int (nI q - 1)), x] [] m1 ∧ Hf mem mem' ∧ Vs mem' ∧
      ((u = 1023 ∧ ∀ r, r ≤ l0 → nonaf cnt W r (v_key fv) (v_mom fv)) ∨ ∃ r i, r ≤ l0 ∧ oldest cnt W r (v_key fv) (v_mom fv) i ∧ (∀ r', r < r' → r' ≤ l0 → nonaf cnt W r' (v_key fv) (v_mom fv)) ∧ u = v_mom (W r i)) := by
    intro q
    induction q with
    | zero =>
      intro m1 x g0 g1 g2 g3 g4
      refine ⟨m1, 1023, ?_, g1, g2, Or.inl ⟨rfl, fun r hr => g4 r (by omega) hr⟩⟩
      repeat (first | refine ev_go rfl (by rfl) ?_ | refine ev_gf rfl (by assumption) (by rfl) (by rfl) ?_)
      exact j_ev.ret rfl
    | succ r ih =>
      intro m1 x g0 g1 g2 g3 g4
      have hr5 : r < 5 := by omega
      have h2 := ra2 hr5
      have l4 : m1.2.2 4 = _ := (g1.2.2 4 (by omega) (by omega) (by omega) (by omega) (by omega) (by omega) (by omega)).trans hLT
      have l19 : m1.2.2 19 = _ := (g1.2.2 19 (by omega) (by omega) (by omega) (by omega) (by omega) (by omega) (by omega)).trans hr19
      obtain ⟨k, f'', b1, b2, b3, b4⟩ := (hFb d m1 g1.1 (Hf_rc g1) g2 r hr5).2 22 ft (by unfold vcell; omega) (by omega) g3
      have hcb := (hRd.1 r hr5).1
      rw [ct.2] at b2 b3
      obtain ⟨fsr, hrun⟩ := (hRd.1 r hr5).2
      have hrun1 : m1.2.2 (ra r) = some (.inr (rc r, fsr)) := (Hf_rc g1 _ (rcell_ra hr5)).trans hrun
      generalize hm2 : j_set m1 (ra r + 2) (vW f'') = m2 at *
      have g1' : Hf mem m2 := by rw [← hm2]; exact Hf_trans g1 (Hf_set m1 _ (by omega))
      have g2' : Vs m2 := by rw [← hm2]; exact Vs_set g2 (v := ra r + 1) (by unfold vcell; omega) f''
      have kcn := (hFb (d + 7) m2 g1'.1 (Hf_rc g1') g2' r hr5).1
      have f2 : ∀ c, c ≠ ra r + 2 → m2.2.2 c = m1.2.2 c := fun c hc => by rw [← hm2]; exact st_ne _ _ hc
      have g3' : Ve m2 22 23 ft := ⟨(f2 _ (by omega)).trans g3.1, (f2 _ (by omega)).trans g3.2⟩
      have p4 : m2.2.2 4 = _ := (f2 4 (by omega)).trans l4
      have p19 : m2.2.2 19 = _ := (f2 19 (by omega)).trans l19
      have hrun2 : m2.2.2 (ra r) = some (.inr (rc r, fsr)) := (f2 _ (by omega)).trans hrun1
      have g31 := g3.1
      rw [show nI (r + 1) - 1 = nI r from nI_pred r]
      have pre : ∀ (o : j_O) (mo : j_M), j_ev (d + 9) (j_ex tb (d + 8)) (j_tab q_LT_nextMoment) [] (o) (mo) 53 [some (.ref 4), some (.ref v), some (.int (nI l0)), some (.int (nI r)), some (.int (nI k))] [.int (nI (cnt r)), .int (nI k)] m2 → j_ev (d + 9) (j_ex tb (d + 8)) (j_tab q_LT_nextMoment) [] (o) (mo) 23 [some (.ref 4), some (.ref v), some (.int (nI l0)), some (.int (nI r)), x] [] m1 := by
        intro o mo kk
        have hcc := rc_or r
        generalize rc r = c at *
        rcases hcc with rfl | rfl
        · repeat (first | refine ev_go rfl (by rfl) ?_ | refine ev_gf rfl (by assumption) (by rfl) (by rfl) ?_)
          refine ev_ifF rfl (by exact b_nlt (a := r) (b := 0) (by omega) (by omega) (by omega)) ?_
          repeat (first | refine ev_go rfl (by rfl) ?_ | refine ev_gf rfl (by assumption) (by rfl) (by rfl) ?_)
          refine ev_alqN (i := r) rfl (by assumption) (by rfl) (by omega) (by omega) ?_
          rw [hrr r hr5]
          repeat (first | refine ev_go rfl (by rfl) ?_ | refine ev_gf rfl (by assumption) (by rfl) (by rfl) ?_)
          refine ev_cv (as := [.ref 22]) rfl rfl rfl (by assumption) (by rfl) (by rfl) (b4) ?_
          repeat (first | refine ev_go rfl (by rfl) ?_ | refine ev_gf rfl (by assumption) (by rfl) (by rfl) ?_)
          refine ev_alqN (i := r) rfl (by assumption) (by rfl) (by omega) (by omega) ?_
          rw [hrr r hr5]
          refine ev_cv (as := []) rfl rfl rfl (by assumption) (by rfl) (by rfl) (kcn) ?_
          exact kk
        · repeat (first | refine ev_go rfl (by rfl) ?_ | refine ev_gf rfl (by assumption) (by rfl) (by rfl) ?_)
          refine ev_ifF rfl (by exact b_nlt (a := r) (b := 0) (by omega) (by omega) (by omega)) ?_
          repeat (first | refine ev_go rfl (by rfl) ?_ | refine ev_gf rfl (by assumption) (by rfl) (by rfl) ?_)
          refine ev_alqN (i := r) rfl (by assumption) (by rfl) (by omega) (by omega) ?_
          rw [hrr r hr5]
          repeat (first | refine ev_go rfl (by rfl) ?_ | refine ev_gf rfl (by assumption) (by rfl) (by rfl) ?_)
          refine ev_cv (as := [.ref 22]) rfl rfl rfl (by assumption) (by rfl) (by rfl) (b4) ?_
          repeat (first | refine ev_go rfl (by rfl) ?_ | refine ev_gf rfl (by assumption) (by rfl) (by rfl) ?_)
          refine ev_alqN (i := r) rfl (by assumption) (by rfl) (by omega) (by omega) ?_
          rw [hrr r hr5]
          refine ev_cv (as := []) rfl rfl rfl (by assumption) (by rfl) (by rfl) (kcn) ?_
          exact kk
      have nextr : ∀ (m3 : j_M) (y : Int32), nonaf cnt W r (v_key fv) (v_mom fv) → Hf mem m3 → Vs m3 → Ve m3 22 23 ft → ∃ mem' u, j_ev (d + 9) (j_ex tb (d + 8)) (j_tab q_LT_nextMoment) [] (.inl (some (.int (nI u)))) (mem') 90 [some (.ref 4), some (.ref v), some (.int (nI l0)), some (.int (nI r)), some (.int y)] [] m3 ∧ Hf mem mem' ∧ Vs mem' ∧
          ((u = 1023 ∧ ∀ r, r ≤ l0 → nonaf cnt W r (v_key fv) (v_mom fv)) ∨ ∃ r i, r ≤ l0 ∧ oldest cnt W r (v_key fv) (v_mom fv) i ∧ (∀ r', r < r' → r' ≤ l0 → nonaf cnt W r' (v_key fv) (v_mom fv)) ∧ u = v_mom (W r i)) := by
        intro m3 y hno e1 e2 e3
        obtain ⟨mem', b, z1, z2⟩ := ih m3 (some (.int y)) (by omega) e1 e2 e3 (fun r' q1 q2 => by
          by_cases c : r' = r
          · subst c; exact hno
          · exact g4 r' (by omega) q2)
        refine ⟨mem', b, ?_, z2⟩
        rw [← w_m1] at z1
        repeat (first | exact z1 | refine ev_go rfl (by rfl) ?_ | refine ev_gf rfl (by assumption) (by rfl) (by rfl) ?_)
      by_cases ck : cnt r ≤ k
      · obtain ⟨mem', b, z1, z2⟩ := nextr m2 (nI k) (fun j hj hk => by
          have := b2 j (by omega)
          rw [vo, hk] at this
          omega) g1' g2' g3'
        refine ⟨mem', b, pre _ _ ?_, z2⟩
        refine ev_icT rfl (by exact b_le (a := cnt r) (b := k) (by omega) (by omega) (by omega)) ?_
        exact z1
      · obtain ⟨ff0, hf0⟩ := g2' 24 (by unfold vcell; omega)
        obtain ⟨ff, r1, r2⟩ := hRd.2 (d + 3) m2 g1'.1 (Hf_rc g1') r k 24 25 ff0 hr5 (by omega) hf0 (by omega)
        generalize hm3 : j_set m2 25 (vW ff) = m3 at *
        have g1'' : Hf mem m3 := by rw [← hm3]; exact Hf_trans g1' (Hf_set m2 _ (by omega))
        have g2'' : Vs m3 := by rw [← hm3]; exact Vs_set g2' (v := 24) (by unfold vcell; omega) ff
        have f3 : ∀ c, c ≠ 25 → m3.2.2 c = m2.2.2 c := fun c hc => by rw [← hm3]; exact st_ne _ _ hc
        have g3'' : Ve m3 22 23 ft := ⟨(f3 _ (by omega)).trans g3'.1, (f3 _ (by omega)).trans g3'.2⟩
        have q4 : m3.2.2 4 = _ := (f3 4 (by omega)).trans p4
        have hfd : Ve m3 24 25 ff := ⟨(f3 24 (by omega)).trans hf0.1, by rw [← hm3]; exact st_same _ _ _⟩
        have hvv : Ve m3 v (v + 1) fv := ⟨(g1''.2.2 _ (by omega) (by omega) (by omega) (by omega) (by omega) (by omega) (by omega)).trans hvf.1, (g1''.2.2 _ (by omega) (by omega) (by omega) (by omega) (by omega) (by omega) (by omega)).trans hvf.2⟩
        obtain ⟨cr, c1, c2, c3⟩ := x_Ve_compareKey (d + 6) hfd hvv
        rw [sw_key r1] at c2 c3
        have hfd1 := hfd.1
        have kth := x_Ve_moment (d + 7) hfd
        rw [sw_mom r1] at kth
        have hlast := b3 k (Nat.le_refl _) (by omega)
        have pre2 : ∀ (o : j_O) (mo : j_M), j_ev (d + 9) (j_ex tb (d + 8)) (j_tab q_LT_nextMoment) [] (o) (mo) 79 [some (.ref 4), some (.ref v), some (.int (nI l0)), some (.int (nI r)), some (.int (nI k))] [.int cr] m3 → j_ev (d + 9) (j_ex tb (d + 8)) (j_tab q_LT_nextMoment) [] (o) (mo) 23 [some (.ref 4), some (.ref v), some (.int (nI l0)), some (.int (nI r)), x] [] m1 := by
          intro o mo kk
          refine pre _ _ ?_
          have hcc := rc_or r
          generalize rc r = c at *
          rcases hcc with rfl | rfl
          · refine ev_icF rfl (by exact b_nle (a := cnt r) (b := k) (by omega) (by omega) (by omega)) ?_
            repeat (first | refine ev_go rfl (by rfl) ?_ | refine ev_gf rfl (by assumption) (by rfl) (by rfl) ?_)
            refine ev_alqN (i := r) rfl (by assumption) (by rfl) (by omega) (by omega) ?_
            rw [hrr r hr5]
            repeat (first | refine ev_go rfl (by rfl) ?_ | refine ev_gf rfl (by assumption) (by rfl) (by rfl) ?_)
            refine ev_cv (as := [.int (nI k), .ref 24]) rfl rfl rfl (by assumption) (by rfl) (by rfl) (r2) ?_
            repeat (first | refine ev_go rfl (by rfl) ?_ | refine ev_gf rfl (by assumption) (by rfl) (by rfl) ?_)
            refine ev_cv (as := [.ref v]) rfl rfl rfl (by assumption) (by rfl) (by rfl) (c1) ?_
            exact kk
          · refine ev_icF rfl (by exact b_nle (a := cnt r) (b := k) (by omega) (by omega) (by omega)) ?_
            repeat (first | refine ev_go rfl (by rfl) ?_ | refine ev_gf rfl (by assumption) (by rfl) (by rfl) ?_)
            refine ev_alqN (i := r) rfl (by assumption) (by rfl) (by omega) (by omega) ?_
            rw [hrr r hr5]
            repeat (first | refine ev_go rfl (by rfl) ?_ | refine ev_gf rfl (by assumption) (by rfl) (by rfl) ?_)
            refine ev_cv (as := [.int (nI k), .ref 24]) rfl rfl rfl (by assumption) (by rfl) (by rfl) (r2) ?_
            repeat (first | refine ev_go rfl (by rfl) ?_ | refine ev_gf rfl (by assumption) (by rfl) (by rfl) ?_)
            refine ev_cv (as := [.ref v]) rfl rfl rfl (by assumption) (by rfl) (by rfl) (c1) ?_
            exact kk
        have hge : ∀ j, j < cnt r → v_key (W r j) = v_key fv → v_mom fv < v_mom (W r j) → v_ord (W r k) ≤ v_ord (W r j) := fun j hj hk hmm => by
          have hjk : k ≤ j := by
            rcases Nat.lt_or_ge j k with q | q
            · have := b2 j q
              rw [vo, hk] at this
              omega
            · exact q
          rcases Nat.lt_or_ge k j with q | q
          · exact hs r hr5 k j q hj
          · rw [show j = k by omega]; exact Nat.le_refl _
        by_cases ce : v_key (W r k) = v_key fv
        · rw [c3.mpr ce] at pre2
          refine ⟨m3, v_mom (W r k), pre2 _ _ ?_, g1'', g2'', Or.inr ⟨r, k, by omega, ⟨by omega, ce, ?_, hge⟩, fun r' q1 q2 => g4 r' (by omega) q2, rfl⟩⟩
          · repeat (first | refine ev_go rfl (by rfl) ?_ | refine ev_gf rfl (by assumption) (by rfl) (by rfl) ?_)
            refine ev_cv (as := []) rfl rfl rfl (by assumption) (by rfl) (by rfl) (kth) ?_
            exact j_ev.ret rfl
          · rw [vo, ce] at hlast
            omega
        · obtain ⟨mem', b, z1, z2⟩ := nextr m3 (nI k) (fun j hj hk => by
            rcases Nat.lt_or_ge (v_mom fv) (v_mom (W r j)) with q | q
            · have hle := hge j hj hk q
              rw [vo, vo, hk] at hle
              rw [vo] at hlast
              have := ml (W r k)
              have := ml (W r j)
              exact absurd (show v_key (W r k) = v_key fv by omega) ce
            · exact q) g1'' g2'' g3''
          refine ⟨mem', b, pre2 _ _ ?_, z2⟩
          refine ev_ifT rfl (by exact decide_eq_true (fun q => ce (c3.mp q))) ?_
          exact z1
  have hVs1 : Vs (j_set mem 23 (vW ft)) := Vs_set hVs (v := 22) (by unfold vcell; omega) ft
  obtain ⟨mem', b, z1, z2⟩ := loop (l0 + 1) (j_set mem 23 (vW ft)) none (by omega) (Hf_set mem _ (by omega)) hVs1 ⟨ht0.1, rfl⟩ (fun r' q1 q2 => by omega)
  refine ⟨mem', b, ?_, z2⟩
  have t1 := ht0.1
  have l1 : mem.2.2 4 = _ := hLT
  have l2 : (j_set mem 23 (vW (va_cpy fv ft0 0 0 6))).2.2 4 = _ := hLT
  have t2 := ht1.1
  have t3 := hvf1.1
  rw [show nI (l0 + 1) - 1 = nI l0 from nI_pred l0] at z1
  rw [← nI_1 (v_mom fv)] at km
  refine ⟨e_LT_nextMoment, rfl, Nat.le_of_ble_eq_true rfl, ?_⟩
  repeat (first | refine ev_go rfl (by rfl) ?_ | refine ev_gf rfl (by assumption) (by rfl) (by rfl) ?_)
  refine ev_cv (as := [.ref v]) rfl rfl rfl (by assumption) (by rfl) (by rfl) (kc) ?_
  repeat (first | refine ev_go rfl (by rfl) ?_ | refine ev_gf rfl (by assumption) (by rfl) (by rfl) ?_)
  refine ev_cv (as := []) rfl rfl rfl (by assumption) (by rfl) (by rfl) (kmo) ?_
  repeat (first | refine ev_go rfl (by rfl) ?_ | refine ev_gf rfl (by assumption) (by rfl) (by rfl) ?_)
  refine ev_cv (as := [.int (nI (v_mom fv) + 1)]) rfl rfl rfl (by assumption) (by rfl) (by rfl) (km) ?_
  repeat (first | exact z1 | refine ev_go rfl (by rfl) ?_ | refine ev_gf rfl (by assumption) (by rfl) (by rfl) ?_)
