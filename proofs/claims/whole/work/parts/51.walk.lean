/-! WALK (own text) -/
def ra (r : Nat) : Nat := if r = 0 then 14 else 28 + 4 * r
def rc (r : Nat) : Nat := if r = 0 then 4 else 5
theorem rc_or (r : Nat) : rc r = 4 ∨ rc r = 5 := by
  unfold rc
  split
  · exact Or.inl rfl
  · exact Or.inr rfl
/-- the cells that a run's load reads -/
def rcell (c : Nat) : Prop := c = 2 ∨ (9 ≤ c ∧ c ≤ 14) ∨ c = 17 ∨ c = 32 ∨ c = 35 ∨ c = 36 ∨ c = 39 ∨ c = 40 ∨ c = 43 ∨ c = 44 ∨ c = 47 ∨ 78 ≤ c
theorem rcell_ra {r : Nat} (h : r < 5) : rcell (ra r) := by
  unfold rcell ra
  split <;> omega
/-- the runs can be read: run r has cnt r versions, the words of the i-th are W r i -/
def Rd (mem : j_M) (cnt : Nat → Nat) (W : Nat → Nat → Nat → Int64) : Prop :=
  (∀ r, r < 5 → cnt r < 2 ^ 20 ∧ ∃ fs, mem.2.2 (ra r) = some (.inr (rc r, fs))) ∧
  ∀ (d : Nat) (m' : j_M), m'.1 = mem.1 → (∀ c, rcell c → m'.2.2 c = mem.2.2 c) → ∀ r i v w f, r < 5 → i < cnt r → Ve m' v w f → 4 ≤ w → ∃ f', sw f' (W r i) ∧ j_ex tb (d + 5) (rL (rc r)) [.ref (ra r), .int (nI i), .ref v] m' (.inl none) (j_set m' w (vW f'))
theorem Rd_fr {mem mem' : j_M} {cnt : Nat → Nat} {W : Nat → Nat → Nat → Int64} (h : Rd mem cnt W) (h1 : mem'.1 = mem.1) (h2 : ∀ c, rcell c → mem'.2.2 c = mem.2.2 c) : Rd mem' cnt W :=
  ⟨fun r hr => ⟨(h.1 r hr).1, by
    obtain ⟨fs, q⟩ := (h.1 r hr).2
    exact ⟨fs, by rw [h2 _ (rcell_ra hr)]; exact q⟩⟩, fun d m' e1 e2 => h.2 d m' (e1.trans h1) (fun c hc => (e2 c hc).trans (h2 c hc))⟩
/-- the walk: whether it has a next, until when, where it is in each run, where it stops -/
def Wq (mem : j_M) (hn un : Int32) (a s : Nat → Nat) (fv fn : Nat → Int64) (W : Nat → Nat → Nat → Int64) : Prop :=
  mem.2.2 48 = some (.inr (6, [.int hn, .int un, .ref 19, .ref 49, .ref 50, .ref 51, .ref 52, .ref 54])) ∧
  mem.2.2 49 = some (.inl (0, 5, .inl (fun r => nI (a r)))) ∧ mem.2.2 50 = some (.inl (0, 5, .inl (fun r => nI (s r)))) ∧
  (∃ Hf, mem.2.2 51 = some (.inl (3, 5, .inr (.inr (.inr (.inr Hf))))) ∧ ∀ r, r < 5 → Hf r = some (56 + 2 * r)) ∧
  (∃ Hr, mem.2.2 19 = some (.inl (4, 5, .inr (.inr (.inr (.inr Hr))))) ∧ ∀ r, r < 5 → Hr r = some (ra r)) ∧
  Ve mem 52 53 fv ∧ Ve mem 54 55 fn ∧ ∀ r, r < 5 → ∃ f, Ve mem (56 + 2 * r) (57 + 2 * r) f ∧ (a r < s r → sw f (W r (a r)))
theorem nup (a : Nat → Nat) (l x : Nat) : upd (fun r => nI (a r)) l (nI x) = fun r => nI (va_up a l x r) := by
  funext r
  by_cases h : r = l
  · subst h; rw [pk_us, va_up_self]
  · rw [pk_un h, va_up_ne _ _ h]
section WALK
variable {mem : j_M} {hn un : Int32} {a s cnt : Nat → Nat} {fv fn : Nat → Int64} {W : Nat → Nat → Nat → Int64}
/-- memory changed in words of versions alone -/
theorem x_Wk_takeNext (d : Nat) (h : Wq mem hn un a s fv fn W) (hR : Rd mem cnt W) (hs : ∀ r, r < 5 → s r ≤ cnt r) (has : ∀ r, r < 5 → a r ≤ s r) :
    ((∀ r, r < 5 → s r ≤ a r) ∧ j_ex tb (d + 6) m_Wk_takeNext [.ref 48] mem (.inl (some (.int 0))) mem) ∨
    ∃ l fn' mem', l < 5 ∧ a l < s l ∧ (∀ r, r < 5 → a r < s r → v_ord (W l (a l)) ≤ v_ord (W r (a r))) ∧ sw fn' (W l (a l)) ∧ j_ex tb (d + 6) m_Wk_takeNext [.ref 48] mem (.inl (some (.int 1))) mem' ∧ Wq mem' hn un (va_up a l (a l + 1)) s fv fn' W ∧ mem'.1 = mem.1 ∧ mem'.2.1 = mem.2.1 ∧ ∀ c, c ≠ 49 → c ≠ 55 → c < 56 ∨ 66 ≤ c → mem'.2.2 c = mem.2.2 c := by
  obtain ⟨w1, w2, w3, ⟨Hf, w4, w4'⟩, ⟨Hr, w5, w5'⟩, w6, w7, w8⟩ := h
  have hcn : ∀ r, r < 5 → s r < 2 ^ 20 := fun r hr => by have := hs r hr; have := (hR.1 r hr).1; omega
  -- the choice
  have loop : ∀ (k r : Nat) (x : Int32), r + k = 5 → ((x = -1 ∧ ∀ q, q < r → s q ≤ a q) ∨ ∃ l, x = nI l ∧ l < r ∧ a l < s l ∧ ∀ q, q < r → a q < s q → v_ord (W l (a l)) ≤ v_ord (W q (a q))) →
      ∃ x', ((x' = -1 ∧ ∀ q, q < 5 → s q ≤ a q) ∨ ∃ l, x' = nI l ∧ l < 5 ∧ a l < s l ∧ ∀ q, q < 5 → a q < s q → v_ord (W l (a l)) ≤ v_ord (W q (a q))) ∧
        ∀ (o : j_O) (mo : j_M), j_ev (d + 6) (j_ex tb (d + 5)) (j_tab q_Wk_takeNext) [] (o) (mo) 54 [some (.ref 48), some (.int x'), some (.int (nI 5))] [] mem → j_ev (d + 6) (j_ex tb (d + 5)) (j_tab q_Wk_takeNext) [] (o) (mo) 4 [some (.ref 48), some (.int x), some (.int (nI r))] [] mem := by
    intro k
    induction k with
    | zero =>
      intro r x hr hx
      have hr : r = 5 := by omega
      subst hr
      refine ⟨x, hx, fun o mo kk => ?_⟩
      repeat (first | exact kk | refine ev_go rfl (by rfl) ?_ | refine ev_gf rfl (by assumption) (by rfl) (by rfl) ?_)
    | succ k ih =>
      intro r x hr hx
      have hr5 : r < 5 := by omega
      by_cases ca : a r < s r
      · have hs2 := hcn r hr5
        obtain ⟨f, vf, swf⟩ := w8 r hr5
        have take : (∀ q, q < r → a q < s q → v_ord (W r (a r)) ≤ v_ord (W q (a q))) → ∃ x', ((x' = -1 ∧ ∀ q, q < 5 → s q ≤ a q) ∨ ∃ l, x' = nI l ∧ l < 5 ∧ a l < s l ∧ ∀ q, q < 5 → a q < s q → v_ord (W l (a l)) ≤ v_ord (W q (a q))) ∧
            ∀ (o : j_O) (mo : j_M), j_ev (d + 6) (j_ex tb (d + 5)) (j_tab q_Wk_takeNext) [] (o) (mo) 54 [some (.ref 48), some (.int x'), some (.int (nI 5))] [] mem → j_ev (d + 6) (j_ex tb (d + 5)) (j_tab q_Wk_takeNext) [] (o) (mo) 46 [some (.ref 48), some (.int x), some (.int (nI r))] [] mem := by
          intro hle
          obtain ⟨x', z1, z2⟩ := ih (r + 1) (nI r) (by omega) (Or.inr ⟨r, rfl, by omega, ca, fun q hq hq2 => by
            by_cases c : q = r
            · subst c; exact Nat.le_refl _
            · exact hle q (by omega) hq2⟩)
          refine ⟨x', z1, fun o mo kk => ?_⟩
          have z3 := z2 o mo kk
          rw [← nI_1 r] at z3
          repeat (first | exact z3 | refine ev_go rfl (by rfl) ?_ | refine ev_gf rfl (by assumption) (by rfl) (by rfl) ?_)
        have pre : ∀ (o : j_O) (mo : j_M), j_ev (d + 6) (j_ex tb (d + 5)) (j_tab q_Wk_takeNext) [] (o) (mo) 25 [some (.ref 48), some (.int x), some (.int (nI r))] [.int x] mem → j_ev (d + 6) (j_ex tb (d + 5)) (j_tab q_Wk_takeNext) [] (o) (mo) 4 [some (.ref 48), some (.int x), some (.int (nI r))] [] mem := by
          intro o mo kk
          repeat (first | refine ev_go rfl (by rfl) ?_ | refine ev_gf rfl (by assumption) (by rfl) (by rfl) ?_)
          refine ev_icF rfl (by exact b_nle (a := 5) (b := r) (by omega) (by omega) (by omega)) ?_
          repeat (first | refine ev_go rfl (by rfl) ?_ | refine ev_gf rfl (by assumption) (by rfl) (by rfl) ?_)
          refine ev_aliN (i := r) rfl (by assumption) (by omega) (by omega) ?_
          repeat (first | refine ev_go rfl (by rfl) ?_ | refine ev_gf rfl (by assumption) (by rfl) (by rfl) ?_)
          refine ev_aliN (i := r) rfl (by assumption) (by omega) (by omega) ?_
          refine ev_icF rfl (by exact b_nle (a := s r) (b := a r) (by omega) (by omega) (by omega)) ?_
          repeat (first | exact kk | refine ev_go rfl (by rfl) ?_ | refine ev_gf rfl (by assumption) (by rfl) (by rfl) ?_)
        rcases hx with ⟨rfl, hx⟩ | ⟨l, rfl, hl1, hl2, hl3⟩
        · obtain ⟨x', z1, z2⟩ := take (fun q hq hq2 => by have := hx q hq; omega)
          refine ⟨x', z1, fun o mo kk => pre _ _ ?_⟩
          have z3 := z2 o mo kk
          repeat (first | exact z3 | refine ev_go rfl (by rfl) ?_ | refine ev_gf rfl (by assumption) (by rfl) (by rfl) ?_)
        · obtain ⟨fl, vl, swl⟩ := w8 l (by omega)
          have kb := x_Ve_isBefore (d + 2) vf vl
          rw [sw_ord (swf ca), sw_ord (swl hl2)] at kb
          have vf1 := vf.1
          have pre2 : ∀ (o : j_O) (mo : j_M), j_ev (d + 6) (j_ex tb (d + 5)) (j_tab q_Wk_takeNext) [] (o) (mo) 43 [some (.ref 48), some (.int (nI l)), some (.int (nI r))] [.int (if v_ord (W r (a r)) < v_ord (W l (a l)) then 1 else 0)] mem → j_ev (d + 6) (j_ex tb (d + 5)) (j_tab q_Wk_takeNext) [] (o) (mo) 4 [some (.ref 48), some (.int (nI l)), some (.int (nI r))] [] mem := by
            intro o mo kk
            refine pre _ _ ?_
            refine ev_ifF rfl (by exact b_nlt (a := l) (b := 0) (by omega) (by omega) (by omega)) ?_
            repeat (first | refine ev_go rfl (by rfl) ?_ | refine ev_gf rfl (by assumption) (by rfl) (by rfl) ?_)
            refine ev_alqN (i := r) rfl (by assumption) (by rfl) (by omega) (by omega) ?_
            rw [w4' r hr5]
            repeat (first | refine ev_go rfl (by rfl) ?_ | refine ev_gf rfl (by assumption) (by rfl) (by rfl) ?_)
            refine ev_alqN (i := l) rfl (by assumption) (by rfl) (by omega) (by omega) ?_
            rw [w4' l (by omega)]
            refine ev_cv (as := [.ref (56 + 2 * l)]) rfl rfl rfl (by assumption) (by rfl) (by rfl) (kb) ?_
            exact kk
          by_cases cb : v_ord (W r (a r)) < v_ord (W l (a l))
          · rw [if_pos cb] at pre2
            obtain ⟨x', z1, z2⟩ := take (fun q hq hq2 => by have := hl3 q hq hq2; omega)
            refine ⟨x', z1, fun o mo kk => pre2 _ _ ?_⟩
            have z3 := z2 o mo kk
            repeat (first | exact z3 | refine ev_go rfl (by rfl) ?_ | refine ev_gf rfl (by assumption) (by rfl) (by rfl) ?_)
          · rw [if_neg cb] at pre2
            obtain ⟨x', z1, z2⟩ := ih (r + 1) (nI l) (by omega) (Or.inr ⟨l, rfl, by omega, hl2, fun q hq hq2 => by
              by_cases c : q = r
              · subst c; omega
              · exact hl3 q (by omega) hq2⟩)
            refine ⟨x', z1, fun o mo kk => pre2 _ _ ?_⟩
            have z3 := z2 o mo kk
            rw [← nI_1 r] at z3
            repeat (first | exact z3 | refine ev_go rfl (by rfl) ?_ | refine ev_gf rfl (by assumption) (by rfl) (by rfl) ?_)
      · obtain ⟨x', z1, z2⟩ := ih (r + 1) x (by omega) (by
          rcases hx with ⟨q1, q2⟩ | ⟨l, q1, q2, q3, q4⟩
          · refine Or.inl ⟨q1, fun q hq => ?_⟩
            by_cases c : q = r
            · subst c; omega
            · exact q2 q (by omega)
          · refine Or.inr ⟨l, q1, by omega, q3, fun q hq hq2 => ?_⟩
            by_cases c : q = r
            · subst c; omega
            · exact q4 q (by omega) hq2)
        refine ⟨x', z1, fun o mo kk => ?_⟩
        have z3 := z2 o mo kk
        have hs2 := hcn r hr5
        rw [← nI_1 r] at z3
        have has2 := has r hr5
        repeat (first | refine ev_go rfl (by rfl) ?_ | refine ev_gf rfl (by assumption) (by rfl) (by rfl) ?_)
        refine ev_icF rfl (by exact b_nle (a := 5) (b := r) (by omega) (by omega) (by omega)) ?_
        repeat (first | refine ev_go rfl (by rfl) ?_ | refine ev_gf rfl (by assumption) (by rfl) (by rfl) ?_)
        refine ev_aliN (i := r) rfl (by assumption) (by omega) (by omega) ?_
        repeat (first | refine ev_go rfl (by rfl) ?_ | refine ev_gf rfl (by assumption) (by rfl) (by rfl) ?_)
        refine ev_aliN (i := r) rfl (by assumption) (by omega) (by omega) ?_
        refine ev_icT rfl (by exact b_le (a := s r) (b := a r) (by omega) (by omega) (by omega)) ?_
        repeat (first | exact z3 | refine ev_go rfl (by rfl) ?_ | refine ev_gf rfl (by assumption) (by rfl) (by rfl) ?_)
  obtain ⟨x', hx, kk⟩ := loop 5 0 (-1) (by omega) (Or.inl ⟨rfl, fun q hq => by omega⟩)
  have ent : ∀ (o : j_O) (mo : j_M), j_ev (d + 6) (j_ex tb (d + 5)) (j_tab q_Wk_takeNext) [] (o) (mo) 54 [some (.ref 48), some (.int x'), some (.int (nI 5))] [] mem → j_ex tb (d + 6) m_Wk_takeNext [.ref 48] mem o mo := by
    intro o mo k
    have k2 := kk o mo k
    refine ⟨e_Wk_takeNext, rfl, Nat.le_of_ble_eq_true rfl, ?_⟩
    repeat (first | exact k2 | refine ev_go rfl (by rfl) ?_ | refine ev_gf rfl (by assumption) (by rfl) (by rfl) ?_)
  rcases hx with ⟨rfl, hx⟩ | ⟨l, rfl, hl1, hl2, hl3⟩
  · refine Or.inl ⟨hx, ent _ _ ?_⟩
    repeat (first | refine ev_go rfl (by rfl) ?_ | refine ev_gf rfl (by assumption) (by rfl) (by rfl) ?_)
    exact j_ev.ret rfl
  · refine Or.inr ?_
    have hsl := hcn l hl1
    obtain ⟨fl, vl, swl⟩ := w8 l hl1
    have kc := x_Ve_copy (d + 4) w7 vl (by omega) (by omega)
    have swn : sw (va_cpy fl fn 0 0 6) (W l (a l)) := fun j hj => (v_cpy hj).trans (swl hl2 j hj)
    change j_ex tb (d + 4 + 1) m_Ve_copy [.ref 54, .ref (56 + 2 * l)] mem (.inl none) (j_set mem 55 (vW (va_cpy fl fn 0 0 6))) at kc
    generalize va_cpy fl fn 0 0 6 = fn' at *
    generalize hm1 : j_set mem 55 (vW fn') = m1 at *
    have f1 : ∀ c, c ≠ 55 → m1.2.2 c = mem.2.2 c := fun c hc => by rw [← hm1]; exact st_ne _ _ hc
    have n1 : m1.1 = mem.1 ∧ m1.2.1 = mem.2.1 := by rw [← hm1]; exact ⟨rfl, rfl⟩
    have p55 : Ve m1 54 55 fn' := ⟨by rw [f1 _ (by omega)]; exact w7.1, by rw [← hm1]; exact st_same _ _ _⟩
    generalize hm2 : j_set m1 49 (.inl (0, 5, .inl (fun r => nI (va_up a l (a l + 1) r)))) = m2
    have f2 : ∀ c, c ≠ 55 → c ≠ 49 → m2.2.2 c = mem.2.2 c := fun c hc hc2 => by rw [← hm2, st_ne _ _ hc2]; exact f1 c hc
    have n2 : m2.1 = mem.1 ∧ m2.2.1 = mem.2.1 := by rw [← hm2]; exact n1
    have q49 : m2.2.2 49 = some (.inl (0, 5, .inl (fun r => nI (va_up a l (a l + 1) r)))) := by rw [← hm2]; exact st_same _ _ _
    have q1 : m2.2.2 48 = _ := (f2 48 (by omega) (by omega)).trans w1
    have q3 : m2.2.2 50 = _ := (f2 50 (by omega) (by omega)).trans w3
    have q4 : m2.2.2 51 = _ := (f2 51 (by omega) (by omega)).trans w4
    have q5 : m2.2.2 19 = _ := (f2 19 (by omega) (by omega)).trans w5
    have q6 : Ve m2 52 53 fv := ⟨(f2 52 (by omega) (by omega)).trans w6.1, (f2 53 (by omega) (by omega)).trans w6.2⟩
    have q7 : Ve m2 54 55 fn' := ⟨(f2 54 (by omega) (by omega)).trans w7.1, by rw [← hm2, st_ne _ _ (by omega)]; exact p55.2⟩
    have q8 : ∀ r f, r < 5 → Ve mem (56 + 2 * r) (57 + 2 * r) f → Ve m2 (56 + 2 * r) (57 + 2 * r) f := fun r f hr q => ⟨(f2 _ (by omega) (by omega)).trans q.1, (f2 _ (by omega) (by omega)).trans q.2⟩
    have p1 : m1.2.2 48 = _ := (f1 48 (by omega)).trans w1
    have p2 : m1.2.2 49 = _ := (f1 49 (by omega)).trans w2
    have pre : ∀ (o : j_O) (mo : j_M), j_ev (d + 6) (j_ex tb (d + 5)) (j_tab q_Wk_takeNext) [] (o) (mo) 95 [some (.ref 48), some (.int (nI l)), some (.int (nI 5))] [.int (nI (s l)), .int (nI (a l + 1))] m2 → j_ex tb (d + 6) m_Wk_takeNext [.ref 48] mem o mo := by
      intro o mo k
      refine ent _ _ ?_
      have w71 := w7.1
      repeat (first | refine ev_go rfl (by rfl) ?_ | refine ev_gf rfl (by assumption) (by rfl) (by rfl) ?_)
      refine ev_ifT rfl (by exact b_le (a := 0) (b := l) (by omega) (by omega) (by omega)) ?_
      repeat (first | refine ev_go rfl (by rfl) ?_ | refine ev_gf rfl (by assumption) (by rfl) (by rfl) ?_)
      refine ev_alqN (i := l) rfl (by assumption) (by rfl) (by omega) (by omega) ?_
      rw [w4' l hl1]
      refine ev_cv (as := [.ref (56 + 2 * l)]) rfl rfl rfl (by assumption) (by rfl) (by rfl) (kc) ?_
      repeat (first | refine ev_go rfl (by rfl) ?_ | refine ev_gf rfl (by assumption) (by rfl) (by rfl) ?_)
      refine ev_aliN (i := l) rfl (by assumption) (by omega) (by omega) ?_
      repeat (first | refine ev_go rfl (by rfl) ?_ | refine ev_gf rfl (by assumption) (by rfl) (by rfl) ?_)
      refine ev_s (st' := [.int (nI (a l + 1)), .int (nI l), .ref 49]) (by rw [← nI_1 (a l)]; rfl) ?_
      refine ev_aiN (i := l) rfl (by assumption) (by omega) (by omega) (by omega) ?_
      rw [nup]
      refine ev_m hm2 ?_
      repeat (first | refine ev_go rfl (by rfl) ?_ | refine ev_gf rfl (by assumption) (by rfl) (by rfl) ?_)
      refine ev_aliN (i := l) rfl (by assumption) (by omega) (by omega) ?_
      repeat (first | refine ev_go rfl (by rfl) ?_ | refine ev_gf rfl (by assumption) (by rfl) (by rfl) ?_)
      refine ev_aliN (i := l) rfl (by assumption) (by omega) (by omega) ?_
      rw [va_up_self]
      exact k
    by_cases cl : a l + 1 < s l
    · have hl4 := hs l hl1
      obtain ⟨f', r1, r2⟩ := hR.2 d m2 n2.1 (fun c hc => f2 c (by unfold rcell at hc; omega) (by unfold rcell at hc; omega)) l (a l + 1) (56 + 2 * l) (57 + 2 * l) fl hl1 (by omega) (q8 l fl hl1 vl) (by omega)
      refine ⟨l, fn', j_set m2 (57 + 2 * l) (vW f'), hl1, hl2, hl3, swn, pre _ _ ?_, ⟨?_, ?_, ?_, ⟨Hf, ?_, w4'⟩, ⟨Hr, ?_, w5'⟩, ⟨?_, ?_⟩, ⟨?_, ?_⟩, fun r hr => ?_⟩, n2.1, n2.2, fun c c1 c2 c3 => ?_⟩
      · obtain ⟨fs, hrun⟩ := (hR.1 l hl1).2
        have hrun2 : m2.2.2 (ra l) = some (.inr (rc l, fs)) := (f2 _ (by have := rcell_ra hl1; unfold rcell at this; omega) (by have := rcell_ra hl1; unfold rcell at this; omega)).trans hrun
        have hcc := rc_or l
        generalize rc l = c at *
        rcases hcc with rfl | rfl
        · refine ev_icF rfl (by exact b_nle (a := s l) (b := a l + 1) (by omega) (by omega) (by omega)) ?_
          repeat (first | refine ev_go rfl (by rfl) ?_ | refine ev_gf rfl (by assumption) (by rfl) (by rfl) ?_)
          refine ev_alqN (i := l) rfl (by assumption) (by rfl) (by omega) (by omega) ?_
          rw [w5' l hl1]
          repeat (first | refine ev_go rfl (by rfl) ?_ | refine ev_gf rfl (by assumption) (by rfl) (by rfl) ?_)
          refine ev_aliN (i := l) rfl (by assumption) (by omega) (by omega) ?_
          rw [va_up_self]
          repeat (first | refine ev_go rfl (by rfl) ?_ | refine ev_gf rfl (by assumption) (by rfl) (by rfl) ?_)
          refine ev_alqN (i := l) rfl (by assumption) (by rfl) (by omega) (by omega) ?_
          rw [w4' l hl1]
          refine ev_cv (as := [.int (nI (a l + 1)), .ref (56 + 2 * l)]) rfl rfl rfl (by assumption) (by rfl) (by rfl) (r2) ?_
          repeat (first | refine ev_go rfl (by rfl) ?_ | refine ev_gf rfl (by assumption) (by rfl) (by rfl) ?_)
          exact j_ev.ret rfl
        · refine ev_icF rfl (by exact b_nle (a := s l) (b := a l + 1) (by omega) (by omega) (by omega)) ?_
          repeat (first | refine ev_go rfl (by rfl) ?_ | refine ev_gf rfl (by assumption) (by rfl) (by rfl) ?_)
          refine ev_alqN (i := l) rfl (by assumption) (by rfl) (by omega) (by omega) ?_
          rw [w5' l hl1]
          repeat (first | refine ev_go rfl (by rfl) ?_ | refine ev_gf rfl (by assumption) (by rfl) (by rfl) ?_)
          refine ev_aliN (i := l) rfl (by assumption) (by omega) (by omega) ?_
          rw [va_up_self]
          repeat (first | refine ev_go rfl (by rfl) ?_ | refine ev_gf rfl (by assumption) (by rfl) (by rfl) ?_)
          refine ev_alqN (i := l) rfl (by assumption) (by rfl) (by omega) (by omega) ?_
          rw [w4' l hl1]
          refine ev_cv (as := [.int (nI (a l + 1)), .ref (56 + 2 * l)]) rfl rfl rfl (by assumption) (by rfl) (by rfl) (r2) ?_
          repeat (first | refine ev_go rfl (by rfl) ?_ | refine ev_gf rfl (by assumption) (by rfl) (by rfl) ?_)
          exact j_ev.ret rfl
      · rw [st_ne _ _ (by omega)]; exact q1
      · rw [st_ne _ _ (by omega)]; exact q49
      · rw [st_ne _ _ (by omega)]; exact q3
      · rw [st_ne _ _ (by omega)]; exact q4
      · rw [st_ne _ _ (by omega)]; exact q5
      · rw [st_ne _ _ (by omega)]; exact q6.1
      · rw [st_ne _ _ (by omega)]; exact q6.2
      · rw [st_ne _ _ (by omega)]; exact q7.1
      · rw [st_ne _ _ (by omega)]; exact q7.2
      · by_cases c : r = l
        · subst c
          refine ⟨f', ⟨by rw [st_ne _ _ (by omega)]; exact (q8 r fl hr vl).1, st_same _ _ _⟩, fun _ => ?_⟩
          rw [va_up_self]
          exact r1
        · obtain ⟨f, e1, e2⟩ := w8 r hr
          refine ⟨f, ⟨by rw [st_ne _ _ (by omega)]; exact (q8 r f hr e1).1, by rw [st_ne _ _ (by omega)]; exact (q8 r f hr e1).2⟩, ?_⟩
          rw [va_up_ne _ _ c]
          exact e2
      · rw [st_ne _ _ (by omega)]
        exact f2 c c2 c1
    · refine ⟨l, fn', m2, hl1, hl2, hl3, swn, pre _ _ ?_, ⟨q1, q49, q3, ⟨Hf, q4, w4'⟩, ⟨Hr, q5, w5'⟩, q6, q7, fun r hr => ?_⟩, n2.1, n2.2, fun c c1 c2 c3 => f2 c c2 c1⟩
      · refine ev_icT rfl (by exact b_le (a := s l) (b := a l + 1) (by omega) (by omega) (by omega)) ?_
        repeat (first | refine ev_go rfl (by rfl) ?_ | refine ev_gf rfl (by assumption) (by rfl) (by rfl) ?_)
        exact j_ev.ret rfl
      · obtain ⟨f, e1, e2⟩ := w8 r hr
        refine ⟨f, q8 r f hr e1, ?_⟩
        by_cases c : r = l
        · subst c
          rw [va_up_self]
          intro q
          omega
        · rw [va_up_ne _ _ c]
          exact e2
end WALK
