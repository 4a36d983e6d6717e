/-! LEVELTABLES: hasSomething (own text) -/
def newest (cnt : Nat → Nat) (W : Nat → Nat → Nat → Int64) (r key m i : Nat) : Prop := i < cnt r ∧ v_key (W r i) = key ∧ v_mom (W r i) ≤ m ∧ ∀ j, j < cnt r → v_key (W r j) = key → v_mom (W r j) ≤ m → v_ord (W r j) ≤ v_ord (W r i)
def nonein (cnt : Nat → Nat) (W : Nat → Nat → Nat → Int64) (r key m : Nat) : Prop := ∀ j, j < cnt r → v_key (W r j) = key → ¬ v_mom (W r j) ≤ m
/-- what the searches leave as it was -/
def Hf (mem mem' : j_M) : Prop := mem'.1 = mem.1 ∧ mem'.2.1 = mem.2.1 ∧ ∀ c, c ≠ 23 → c ≠ 25 → c ≠ 16 → c ≠ 34 → c ≠ 38 → c ≠ 42 → c ≠ 46 → mem'.2.2 c = mem.2.2 c
theorem Hf_refl (mem : j_M) : Hf mem mem := ⟨rfl, rfl, fun _ _ _ _ _ _ _ _ => rfl⟩
theorem Hf_trans {m1 m2 m3 : j_M} (h : Hf m1 m2) (h' : Hf m2 m3) : Hf m1 m3 := ⟨h'.1.trans h.1, h'.2.1.trans h.2.1, fun c a1 a2 a3 a4 a5 a6 a7 => (h'.2.2 c a1 a2 a3 a4 a5 a6 a7).trans (h.2.2 c a1 a2 a3 a4 a5 a6 a7)⟩
theorem Hf_set (mem : j_M) {a : Nat} (x : j_C) (h : a = 23 ∨ a = 25 ∨ a = 16 ∨ a = 34 ∨ a = 38 ∨ a = 42 ∨ a = 46) : Hf mem (j_set mem a x) := ⟨rfl, rfl, fun c a1 a2 a3 a4 a5 a6 a7 => st_ne _ _ (by omega)⟩
theorem Hf_rc {mem mem' : j_M} (h : Hf mem mem') : ∀ c, rcell c → mem'.2.2 c = mem.2.2 c := fun c hc => by
  unfold rcell at hc
  exact h.2.2 c (by omega) (by omega) (by omega) (by omega) (by omega) (by omega) (by omega)
theorem ra2 {r : Nat} (h : r < 5) : ra r + 2 = 16 ∨ ra r + 2 = 34 ∨ ra r + 2 = 38 ∨ ra r + 2 = 42 ∨ ra r + 2 = 46 := by
  unfold ra
  split <;> omega
/-- the target of a search -/
theorem v_tg {f g : Nat → Int64} {m : Nat} (hm : m < 1024) : v_key (v_at (va_cpy f g 0 0 6) m) = v_key f ∧ v_ord (v_at (va_cpy f g 0 0 6) m) = v_key f * 1024 + m := by
  have hs : sw (va_cpy f g 0 0 6) f := fun j hj => v_cpy hj
  have hd := v_desc (f := va_cpy f g 0 0 6) (m := m) (t := 0) (s := 0) (p := 0) hm (by omega) (by omega) (by omega)
  have hk : v_key (v_at (va_cpy f g 0 0 6) m) = v_key f := by
    rw [← sw_key hs]
    unfold v_key v_at
    rw [hd.1, hd.2.1]
  refine ⟨hk, ?_⟩
  unfold v_ord
  rw [hk]
  unfold v_at
  rw [hd.2.2.1]
theorem x_LT_has (d : Nat) {mem : j_M} {sh lv : Int32} {cnt : Nat → Nat} {W : Nat → Nat → Nat → Int64} {v m r0 : Nat} {fv : Nat → Int64} (hLT : LT mem sh lv) (hru : ∃ Hr, mem.2.2 19 = some (.inl (4, 5, .inr (.inr (.inr (.inr Hr))))) ∧ ∀ r, r < 5 → Hr r = some (ra r)) (hRd : Rd mem cnt W) (hFb : Fb mem cnt W) (hs : ∀ r, r < 5 → ∀ i j, i < j → j < cnt r → v_ord (W r i) ≤ v_ord (W r j)) (hVs : Vs mem)
    (hv : v = 20 ∨ v = 52) (hvf : Ve mem v (v + 1) fv) (hm : m < 1000) (hr0 : r0 ≤ 5) :
    ∃ mem' b, j_ex tb (d + 9) m_LT_hasSomething [.ref 4, .ref v, .int (nI m), .int (nI r0)] mem (.inl (some (.int (nI b)))) mem' ∧ Hf mem mem' ∧ Vs mem' ∧
      ((b = 0 ∧ ∀ r, r0 ≤ r → r < 5 → nonein cnt W r (v_key fv) m) ∨ ∃ r i ff, r0 ≤ r ∧ r < 5 ∧ newest cnt W r (v_key fv) m i ∧ (∀ r', r0 ≤ r' → r' < r → nonein cnt W r' (v_key fv) m) ∧ b = v_th (W r i) ∧ Ve mem' 24 25 ff ∧ sw ff (W r i)) := by
  obtain ⟨Hr, hr19, hrr⟩ := hru
  obtain ⟨ft0, ht0⟩ := hVs 22 (by unfold vcell; omega)
  have ct := v_tg (f := fv) (g := ft0) (m := m + 1) (by omega)
  have kc := x_Ve_copy (d + 7) ht0 hvf (by omega) (by omega)
  have ht1 : Ve (j_set mem 23 (vW (va_cpy fv ft0 0 0 6))) 22 23 (va_cpy fv ft0 0 0 6) := ⟨ht0.1, rfl⟩
  have km := x_Ve_setMoment (d + 5) (m := m + 1) ht1 (by omega) (by omega)
  rw [st_st] at km
  change j_ex tb (d + 5 + 3) m_Ve_setMoment [.ref 22, .int (nI (m + 1))] (j_set mem 23 (vW (va_cpy fv ft0 0 0 6))) (.inl none) (j_set mem 23 (vW (v_at (va_cpy fv ft0 0 0 6) (m + 1)))) at km
  generalize hft : v_at (va_cpy fv ft0 0 0 6) (m + 1) = ft at *
  have ml : ∀ f, v_mom f < 1024 := fun f => Nat.mod_lt _ (by decide)
  have vo : ∀ f, v_ord f = v_key f * 1024 + v_mom f := fun f => rfl
  have loop : ∀ (q r : Nat) (m1 : j_M) (x : Option Value), r + q = 5 → r0 ≤ r → Hf mem m1 → Vs m1 → Ve m1 22 23 ft → (∀ r', r0 ≤ r' → r' < r → nonein cnt W r' (v_key fv) m) →
      ∃ mem' b, j_ev (d + 9) (j_ex tb (d + 8)) (j_tab q_LT_hasSomething) [] (.inl (some (.int (nI b)))) (mem') 21 [some (.ref 4), some (.ref v), some (.int (nI m)), some (.int (nI r0)), some (.int (nI r)), x] [] m1 ∧ Hf mem mem' ∧ Vs mem' ∧
      ((b = 0 ∧ ∀ r, r0 ≤ r → r < 5 → nonein cnt W r (v_key fv) m) ∨ ∃ r i ff, r0 ≤ r ∧ r < 5 ∧ newest cnt W r (v_key fv) m i ∧ (∀ r', r0 ≤ r' → r' < r → nonein cnt W r' (v_key fv) m) ∧ b = v_th (W r i) ∧ Ve mem' 24 25 ff ∧ sw ff (W r i)) := by
    intro q
    induction q with
    | zero =>
      intro r m1 x hr g0 g1 g2 g3 g4
      have hr : r = 5 := by omega
      subst hr
      refine ⟨m1, 0, ?_, g1, g2, Or.inl ⟨rfl, g4⟩⟩
      repeat (first | refine ev_go rfl (by rfl) ?_ | refine ev_gf rfl (by assumption) (by rfl) (by rfl) ?_)
      exact j_ev.ret rfl
    | succ q ih =>
      intro r m1 x hr g0 g1 g2 g3 g4
      have hr5 : r < 5 := by omega
      have h2 := ra2 hr5
      have l4 : m1.2.2 4 = _ := (g1.2.2 4 (by omega) (by omega) (by omega) (by omega) (by omega) (by omega) (by omega)).trans hLT
      have l19 : m1.2.2 19 = _ := (g1.2.2 19 (by omega) (by omega) (by omega) (by omega) (by omega) (by omega) (by omega)).trans hr19
      obtain ⟨k, f'', b1, b2, b3, b4⟩ := (hFb d m1 g1.1 (Hf_rc g1) g2 r hr5).2 22 ft (by unfold vcell; omega) (by omega) g3
      have hcb := (hRd.1 r hr5).1
      rw [ct.2] at b2 b3
      obtain ⟨fsr, hrun⟩ := (hRd.1 r hr5).2
      have hrun1 : m1.2.2 (ra r) = some (.inr (rc r, fsr)) := (Hf_rc g1 _ (rcell_ra hr5)).trans hrun
      generalize hm2 : j_set m1 (ra r + 2) (vW f'') = m2 at *
      have g1' : Hf mem m2 := by rw [← hm2]; exact Hf_trans g1 (Hf_set m1 _ (by omega))
      have g2' : Vs m2 := by rw [← hm2]; exact Vs_set g2 (v := ra r + 1) (by unfold vcell; omega) f''
      have f2 : ∀ c, c ≠ ra r + 2 → m2.2.2 c = m1.2.2 c := fun c hc => by rw [← hm2]; exact st_ne _ _ hc
      have g3' : Ve m2 22 23 ft := ⟨(f2 _ (by omega)).trans g3.1, (f2 _ (by omega)).trans g3.2⟩
      have p4 : m2.2.2 4 = _ := (f2 4 (by omega)).trans l4
      have p19 : m2.2.2 19 = _ := (f2 19 (by omega)).trans l19
      have hrun2 : m2.2.2 (ra r) = some (.inr (rc r, fsr)) := (f2 _ (by omega)).trans hrun1
      have g31 := g3.1
      -- up to the branch behind the search
      have pre : ∀ (o : j_O) (mo : j_M), j_ev (d + 9) (j_ex tb (d + 8)) (j_tab q_LT_hasSomething) [] (o) (mo) 47 [some (.ref 4), some (.ref v), some (.int (nI m)), some (.int (nI r0)), some (.int (nI r)), some (.int (nI k - 1))] [.int (nI k - 1)] m2 → j_ev (d + 9) (j_ex tb (d + 8)) (j_tab q_LT_hasSomething) [] (o) (mo) 21 [some (.ref 4), some (.ref v), some (.int (nI m)), some (.int (nI r0)), some (.int (nI r)), x] [] m1 := by
        intro o mo kk
        have hcc := rc_or r
        generalize rc r = c at *
        rcases hcc with rfl | rfl
        · repeat (first | refine ev_go rfl (by rfl) ?_ | refine ev_gf rfl (by assumption) (by rfl) (by rfl) ?_)
          refine ev_icF rfl (by exact b_nle (a := 5) (b := r) (by omega) (by omega) (by omega)) ?_
          repeat (first | refine ev_go rfl (by rfl) ?_ | refine ev_gf rfl (by assumption) (by rfl) (by rfl) ?_)
          refine ev_alqN (i := r) rfl (by assumption) (by rfl) (by omega) (by omega) ?_
          rw [hrr r hr5]
          repeat (first | refine ev_go rfl (by rfl) ?_ | refine ev_gf rfl (by assumption) (by rfl) (by rfl) ?_)
          refine ev_cv (as := [.ref 22]) rfl rfl rfl (by assumption) (by rfl) (by rfl) (b4) ?_
          repeat (first | exact kk | refine ev_go rfl (by rfl) ?_ | refine ev_gf rfl (by assumption) (by rfl) (by rfl) ?_)
        · repeat (first | refine ev_go rfl (by rfl) ?_ | refine ev_gf rfl (by assumption) (by rfl) (by rfl) ?_)
          refine ev_icF rfl (by exact b_nle (a := 5) (b := r) (by omega) (by omega) (by omega)) ?_
          repeat (first | refine ev_go rfl (by rfl) ?_ | refine ev_gf rfl (by assumption) (by rfl) (by rfl) ?_)
          refine ev_alqN (i := r) rfl (by assumption) (by rfl) (by omega) (by omega) ?_
          rw [hrr r hr5]
          repeat (first | refine ev_go rfl (by rfl) ?_ | refine ev_gf rfl (by assumption) (by rfl) (by rfl) ?_)
          refine ev_cv (as := [.ref 22]) rfl rfl rfl (by assumption) (by rfl) (by rfl) (b4) ?_
          repeat (first | exact kk | refine ev_go rfl (by rfl) ?_ | refine ev_gf rfl (by assumption) (by rfl) (by rfl) ?_)
      -- nothing here: the next run
      have nextr : ∀ (m3 : j_M) (y : Int32), nonein cnt W r (v_key fv) m → Hf mem m3 → Vs m3 → Ve m3 22 23 ft → ∃ mem' b, j_ev (d + 9) (j_ex tb (d + 8)) (j_tab q_LT_hasSomething) [] (.inl (some (.int (nI b)))) (mem') 85 [some (.ref 4), some (.ref v), some (.int (nI m)), some (.int (nI r0)), some (.int (nI r)), some (.int y)] [] m3 ∧ Hf mem mem' ∧ Vs mem' ∧
          ((b = 0 ∧ ∀ r, r0 ≤ r → r < 5 → nonein cnt W r (v_key fv) m) ∨ ∃ r i ff, r0 ≤ r ∧ r < 5 ∧ newest cnt W r (v_key fv) m i ∧ (∀ r', r0 ≤ r' → r' < r → nonein cnt W r' (v_key fv) m) ∧ b = v_th (W r i) ∧ Ve mem' 24 25 ff ∧ sw ff (W r i)) := by
        intro m3 y hno e1 e2 e3
        obtain ⟨mem', b, z1, z2⟩ := ih (r + 1) m3 (some (.int y)) (by omega) (by omega) e1 e2 e3 (fun r' q1 q2 => by
          by_cases c : r' = r
          · subst c; exact hno
          · exact g4 r' q1 (by omega))
        refine ⟨mem', b, ?_, z2⟩
        rw [← nI_1 r] at z1
        repeat (first | exact z1 | refine ev_go rfl (by rfl) ?_ | refine ev_gf rfl (by assumption) (by rfl) (by rfl) ?_)
      by_cases ck : k = 0
      · subst ck
        obtain ⟨mem', b, z1, z2⟩ := nextr m2 (nI 0 - 1) (fun j hj hk hmm => by
          have := b3 j (by omega) hj
          rw [vo, hk] at this
          omega) g1' g2' g3'
        refine ⟨mem', b, pre _ _ ?_, z2⟩
        repeat (first | exact z1 | refine ev_go rfl (by rfl) ?_ | refine ev_gf rfl (by assumption) (by rfl) (by rfl) ?_)
      · have ek : nI k - 1 = nI (k - 1) := pk_sub (b := 1) (by omega)
        rw [ek] at pre
        obtain ⟨ff0, hf0⟩ := g2' 24 (by unfold vcell; omega)
        obtain ⟨ff, r1, r2⟩ := hRd.2 (d + 3) m2 g1'.1 (Hf_rc g1') r (k - 1) 24 25 ff0 hr5 (by omega) hf0 (by omega)
        generalize hm3 : j_set m2 25 (vW ff) = m3 at *
        have g1'' : Hf mem m3 := by rw [← hm3]; exact Hf_trans g1' (Hf_set m2 _ (by omega))
        have g2'' : Vs m3 := by rw [← hm3]; exact Vs_set g2' (v := 24) (by unfold vcell; omega) ff
        have f3 : ∀ c, c ≠ 25 → m3.2.2 c = m2.2.2 c := fun c hc => by rw [← hm3]; exact st_ne _ _ hc
        have g3'' : Ve m3 22 23 ft := ⟨(f3 _ (by omega)).trans g3'.1, (f3 _ (by omega)).trans g3'.2⟩
        have q4 : m3.2.2 4 = _ := (f3 4 (by omega)).trans p4
        have hfd : Ve m3 24 25 ff := ⟨(f3 24 (by omega)).trans hf0.1, by rw [← hm3]; exact st_same _ _ _⟩
        have hvv : Ve m3 v (v + 1) fv := ⟨(g1''.2.2 _ (by omega) (by omega) (by omega) (by omega) (by omega) (by omega) (by omega)).trans hvf.1, (g1''.2.2 _ (by omega) (by omega) (by omega) (by omega) (by omega) (by omega) (by omega)).trans hvf.2⟩
        obtain ⟨cr, c1, c2, c3⟩ := x_Ve_compareKey (d + 6) hfd hvv
        rw [sw_key r1] at c2 c3
        have hfd1 := hfd.1
        have kth := x_Ve_isThere (d + 7) hfd
        rw [sw_th r1] at kth
        have hlast := b2 (k - 1) (by omega)
        have pre2 : ∀ (o : j_O) (mo : j_M), j_ev (d + 9) (j_ex tb (d + 8)) (j_tab q_LT_hasSomething) [] (o) (mo) 74 [some (.ref 4), some (.ref v), some (.int (nI m)), some (.int (nI r0)), some (.int (nI r)), some (.int (nI (k - 1)))] [.int cr] m3 → j_ev (d + 9) (j_ex tb (d + 8)) (j_tab q_LT_hasSomething) [] (o) (mo) 21 [some (.ref 4), some (.ref v), some (.int (nI m)), some (.int (nI r0)), some (.int (nI r)), x] [] m1 := by
          intro o mo kk
          refine pre _ _ ?_
          have hcc := rc_or r
          generalize rc r = c at *
          rcases hcc with rfl | rfl
          · refine ev_ifF rfl (by exact b_nlt (a := k - 1) (b := 0) (by omega) (by omega) (by omega)) ?_
            repeat (first | refine ev_go rfl (by rfl) ?_ | refine ev_gf rfl (by assumption) (by rfl) (by rfl) ?_)
            refine ev_alqN (i := r) rfl (by assumption) (by rfl) (by omega) (by omega) ?_
            rw [hrr r hr5]
            repeat (first | refine ev_go rfl (by rfl) ?_ | refine ev_gf rfl (by assumption) (by rfl) (by rfl) ?_)
            refine ev_cv (as := [.int (nI (k - 1)), .ref 24]) rfl rfl rfl (by assumption) (by rfl) (by rfl) (r2) ?_
            repeat (first | refine ev_go rfl (by rfl) ?_ | refine ev_gf rfl (by assumption) (by rfl) (by rfl) ?_)
            refine ev_cv (as := [.ref v]) rfl rfl rfl (by assumption) (by rfl) (by rfl) (c1) ?_
            exact kk
          · refine ev_ifF rfl (by exact b_nlt (a := k - 1) (b := 0) (by omega) (by omega) (by omega)) ?_
            repeat (first | refine ev_go rfl (by rfl) ?_ | refine ev_gf rfl (by assumption) (by rfl) (by rfl) ?_)
            refine ev_alqN (i := r) rfl (by assumption) (by rfl) (by omega) (by omega) ?_
            rw [hrr r hr5]
            repeat (first | refine ev_go rfl (by rfl) ?_ | refine ev_gf rfl (by assumption) (by rfl) (by rfl) ?_)
            refine ev_cv (as := [.int (nI (k - 1)), .ref 24]) rfl rfl rfl (by assumption) (by rfl) (by rfl) (r2) ?_
            repeat (first | refine ev_go rfl (by rfl) ?_ | refine ev_gf rfl (by assumption) (by rfl) (by rfl) ?_)
            refine ev_cv (as := [.ref v]) rfl rfl rfl (by assumption) (by rfl) (by rfl) (c1) ?_
            exact kk
        by_cases ce : v_key (W r (k - 1)) = v_key fv
        · rw [c3.mpr ce] at pre2
          refine ⟨m3, v_th (W r (k - 1)), pre2 _ _ ?_, g1'', g2'', Or.inr ⟨r, k - 1, ff, g0, hr5, ⟨by omega, ce, ?_, fun j hj hk hmm => ?_⟩, g4, rfl, hfd, r1⟩⟩
          · have hth : v_th (W r (k - 1)) = 0 ∨ v_th (W r (k - 1)) = 1 := by unfold v_th; omega
            repeat (first | refine ev_go rfl (by rfl) ?_ | refine ev_gf rfl (by assumption) (by rfl) (by rfl) ?_)
            refine ev_cv (as := []) rfl rfl rfl (by assumption) (by rfl) (by rfl) (kth) ?_
            rcases hth with c | c
            · rw [c]
              exact j_ev.ret rfl
            · rw [c]
              exact j_ev.ret rfl
          · rw [vo, ce] at hlast
            omega
          · have hjk : j < k := by
              rcases Nat.lt_or_ge j k with q | q
              · exact q
              · have := b3 j q hj
                rw [vo, hk] at this
                omega
            rcases Nat.lt_or_ge j (k - 1) with q | q
            · exact hs r hr5 j (k - 1) q (by omega)
            · rw [show j = k - 1 by omega]; exact Nat.le_refl _
        · obtain ⟨mem', b, z1, z2⟩ := nextr m3 (nI (k - 1)) (fun j hj hk hmm => by
            have hjk : j < k := by
              rcases Nat.lt_or_ge j k with q | q
              · exact q
              · have := b3 j q hj
                rw [vo, hk] at this
                omega
            have hle : v_ord (W r j) ≤ v_ord (W r (k - 1)) := by
              rcases Nat.lt_or_ge j (k - 1) with q | q
              · exact hs r hr5 j (k - 1) q (by omega)
              · rw [show j = k - 1 by omega]; exact Nat.le_refl _
            rw [vo, vo, hk] at hle
            rw [vo] at hlast
            have := ml (W r (k - 1))
            exact ce (by omega)) g1'' g2'' g3''
          refine ⟨mem', b, pre2 _ _ ?_, z2⟩
          refine ev_ifT rfl (by exact decide_eq_true (fun q => ce (c3.mp q))) ?_
          exact z1
  have hVs1 : Vs (j_set mem 23 (vW ft)) := Vs_set hVs (v := 22) (by unfold vcell; omega) ft
  obtain ⟨mem', b, z1, z2⟩ := loop (5 - r0) r0 (j_set mem 23 (vW ft)) none (by omega) (Nat.le_refl _) (Hf_set mem _ (by omega)) hVs1 ⟨ht0.1, rfl⟩ (fun r' q1 q2 => by omega)
  refine ⟨mem', b, ?_, z2⟩
  have t1 := ht0.1
  have l1 : mem.2.2 4 = _ := hLT
  have l2 : (j_set mem 23 (vW (va_cpy fv ft0 0 0 6))).2.2 4 = _ := hLT
  have t2 := ht1.1
  rw [← nI_1 m] at km
  refine ⟨e_LT_hasSomething, rfl, Nat.le_of_ble_eq_true rfl, ?_⟩
  repeat (first | refine ev_go rfl (by rfl) ?_ | refine ev_gf rfl (by assumption) (by rfl) (by rfl) ?_)
  refine ev_cv (as := [.ref v]) rfl rfl rfl (by assumption) (by rfl) (by rfl) (kc) ?_
  repeat (first | refine ev_go rfl (by rfl) ?_ | refine ev_gf rfl (by assumption) (by rfl) (by rfl) ?_)
  refine ev_cv (as := [.int (nI m + 1)]) rfl rfl rfl (by assumption) (by rfl) (by rfl) (km) ?_
  repeat (first | exact z1 | refine ev_go rfl (by rfl) ?_ | refine ev_gf rfl (by assumption) (by rfl) (by rfl) ?_)
