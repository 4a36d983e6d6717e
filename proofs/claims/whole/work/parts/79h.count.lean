/-! LEVELTABLES: countLiving, reachSomething (own text) -/
section CNT
variable {mem : j_M} {G : Nat → Nat → Int64} {P : Nat} {s : Nat → Option Nat} {sh lv : Int32} {mm : List Nat} {LV : Nat → List TG} {J Q : Nat}
/-- which stretch of each run is covered: from x on for the runs below r, none of the others -/
def Cvd (ms : Nat → List Nat) (x : Nat → Nat) (r : Nat) (a s : Nat → Nat) : Prop := (∀ r', r' < r → r' < 5 → (∀ i, (a r' ≤ i ∧ i < s r') ↔ (x r' ≤ i ∧ i < (ms r').length)) ∧ a r' ≤ s r' ∧ s r' ≤ (ms r').length) ∧ ∀ r', r ≤ r' → r' < 5 → a r' = 0 ∧ s r' = 0
theorem Cvd_s {ms : Nat → List Nat} {x a s a' s' : Nat → Nat} {r : Nat} (h : Cvd ms x r a s) (hr : r < 5) (h1 : ∀ r', r' ≠ r → a' r' = a r' ∧ s' r' = s r') (h2 : ∀ i, (a' r ≤ i ∧ i < s' r) ↔ (x r ≤ i ∧ i < (ms r).length)) (h3 : a' r ≤ s' r) (h4 : s' r ≤ (ms r).length) : Cvd ms x (r + 1) a' s' := by
  refine ⟨fun r' c1 c2 => ?_, fun r' c1 c2 => ?_⟩
  · by_cases c : r' = r
    · subst c
      exact ⟨h2, h3, h4⟩
    · rw [(h1 r' c).1, (h1 r' c).2]
      exact h.1 r' (by omega) c2
  · rw [(h1 r' (by omega)).1, (h1 r' (by omega)).2]
    exact h.2 r' (by omega) c2
/-- the list that the walk gives then -/
theorem Cvd_l {x a s : Nat → Nat} (hg : Rg G (rms mm LV)) (h : Cvd (rms mm LV) x 5 a s) : ∃ l, Rl (gK G) (rms mm LV) a s l ∧ (∀ t, t ∈ l ↔ ∃ r, r < 5 ∧ ∃ i, x r ≤ i ∧ i < (rms mm LV r).length ∧ t = (rms mm LV r).getD i 0) ∧ ∀ t ∈ l, 1 ≤ t ∧ t ≤ 500 := by
  have hlt : ∀ r, r < 5 → ∀ y ∈ (rms mm LV r).drop (x r), y < 1024 := fun r hr y hy => by
    have := (hg.2.1 r hr y (List.mem_of_mem_drop hy)).2
    omega
  obtain ⟨l, l1, l2⟩ := srt (gK G) ((rms mm LV 0).drop (x 0) ++ ((rms mm LV 1).drop (x 1) ++ ((rms mm LV 2).drop (x 2) ++ ((rms mm LV 3).drop (x 3) ++ (rms mm LV 4).drop (x 4))))) (fun y hy => by
    rcases List.mem_append.mp hy with w | w
    · exact hlt 0 (by omega) y w
    · rcases List.mem_append.mp w with w | w
      · exact hlt 1 (by omega) y w
      · rcases List.mem_append.mp w with w | w
        · exact hlt 2 (by omega) y w
        · rcases List.mem_append.mp w with w | w
          · exact hlt 3 (by omega) y w
          · exact hlt 4 (by omega) y w)
  have hd : ∀ r t, t ∈ (rms mm LV r).drop (x r) ↔ ∃ i, x r ≤ i ∧ i < (rms mm LV r).length ∧ t = (rms mm LV r).getD i 0 := fun r t => by
    constructor
    · intro h
      obtain ⟨i, hi, rfl⟩ := List.mem_iff_getElem.mp h
      rw [List.length_drop] at hi
      refine ⟨x r + i, by omega, by omega, ?_⟩
      rw [List.getElem_drop, getD_lt (by omega)]
    · rintro ⟨i, h1, h2, rfl⟩
      rw [getD_lt h2]
      have : (rms mm LV r)[i] = ((rms mm LV r).drop (x r))[i - x r]'(by rw [List.length_drop]; omega) := by
        rw [List.getElem_drop]
        congr 1
        omega
      rw [this]
      exact List.getElem_mem _
  have hm : ∀ t, t ∈ l ↔ ∃ r, r < 5 ∧ ∃ i, x r ≤ i ∧ i < (rms mm LV r).length ∧ t = (rms mm LV r).getD i 0 := fun t => by
    rw [l2]
    simp only [List.mem_append, hd]
    constructor
    · rintro (w | w | w | w | w)
      · exact ⟨0, by omega, w⟩
      · exact ⟨1, by omega, w⟩
      · exact ⟨2, by omega, w⟩
      · exact ⟨3, by omega, w⟩
      · exact ⟨4, by omega, w⟩
    · rintro ⟨r, hr, w⟩
      have : r = 0 ∨ r = 1 ∨ r = 2 ∨ r = 3 ∨ r = 4 := by omega
      rcases this with rfl | rfl | rfl | rfl | rfl
      · exact Or.inl w
      · exact Or.inr (Or.inl w)
      · exact Or.inr (Or.inr (Or.inl w))
      · exact Or.inr (Or.inr (Or.inr (Or.inl w)))
      · exact Or.inr (Or.inr (Or.inr (Or.inr w)))
  refine ⟨l, ⟨l1, fun t => ?_⟩, hm, fun t ht => ?_⟩
  · rw [hm]
    constructor
    · rintro ⟨r, hr, i, i1, i2, i3⟩
      have := ((h.1 r hr hr).1 i).mpr ⟨i1, i2⟩
      exact ⟨r, hr, i, this.1, this.2, i3⟩
    · rintro ⟨r, hr, i, i1, i2, i3⟩
      have := ((h.1 r hr hr).1 i).mp ⟨i1, i2⟩
      exact ⟨r, hr, i, this.1, this.2, i3⟩
  · obtain ⟨r, hr, i, i1, i2, rfl⟩ := (hm t).mp ht
    exact hg.2.1 r hr _ (getD_mm i2)
theorem Sy_wl {m : j_M} {sp : Nat → Nat} {un : Int32} {fv : Nat → Int64} {l : List Nat} {m' : j_M} (h : Sy m G P s sh lv mm LV J Q) (hf : Wf m m') (hw : Wl m' G (rms mm LV) sp un fv l) : Sy m' G P s sh lv mm LV J Q := by
  obtain ⟨R, E, C, B, Wn, T, U, D, hb, hsb⟩ := Sy_bs h
  obtain ⟨hn, a, fn, q1, -⟩ := hw
  exact Sy_sf h (Sf_wf hf) (Vs_wq hsb.2.2.2.2.1 hf q1) ⟨_, _, _, _, _, _, _, q1⟩
theorem cl_loop (d : Nat) (hp : Pu G P mm LV) (hP : P ≤ 500) {l : List Nat} {sp : Nat → Nat} (hso : So (gK G) l) (hl : ∀ t, t ∈ l ↔ mem5 (rms mm LV) t) : ∀ (rest pre : List Nat) (c i : Nat) (m1 : j_M) (un : Int32) (fv : Nat → Int64), l = pre ++ rest → Wl m1 G (rms mm LV) sp un fv rest → Sy m1 G P s sh lv mm LV J Q → i + rest.length ≤ 500 →
    ∃ mo, j_ev (d + 10) (j_ex tb (d + 9)) (j_tab q_LT_countLiving) [] (.inl (some (.int (nI (c + (rest.filter (fun t => bd (sst (gK G) (gT G) (mem5 (rms mm LV)) P t))).length))))) (mo) 49 [some (.ref 4), some (.int (nI c)), some (.int (nI i))] [] m1 ∧ Sy mo G P s sh lv mm LV J Q ∧ Sf m1 mo := by
  have hlt : ∀ t ∈ l, 1 ≤ t ∧ t ≤ 500 := fun t ht => by
    obtain ⟨r, h1, h2⟩ := (hl t).mp ht
    exact hp.2.1.2.1 r h1 t h2
  intro rest
  induction rest with
  | nil =>
    intro pre c i m1 un fv e hw hs hi
    have l4 := Sy_lt hs
    have k2 := gh_advance0 (d + 8) hw
    have w48 : ∃ fs, m1.2.2 48 = some (.inr (6, fs)) := by
      obtain ⟨hn, a, fn, q1, -⟩ := hw
      exact ⟨_, q1.1⟩
    obtain ⟨f48, w48⟩ := w48
    refine ⟨m1, ?_, hs, Sf_refl _⟩
    rw [List.filter_nil, List.length_nil, Nat.add_zero]
    by_cases ci : i < 500
    · repeat (first | refine ev_go rfl (by rfl) ?_ | refine ev_gf rfl (by assumption) (by rfl) (by rfl) ?_)
      refine ev_icF rfl (by exact b_nle (a := 500) (b := i) (by omega) (by omega) (by omega)) ?_
      repeat (first | refine ev_go rfl (by rfl) ?_ | refine ev_gf rfl (by assumption) (by rfl) (by rfl) ?_)
      refine ev_cv (as := []) rfl rfl rfl (by assumption) (by rfl) (by rfl) (k2) ?_
      repeat (first | refine ev_go rfl (by rfl) ?_ | refine ev_gf rfl (by assumption) (by rfl) (by rfl) ?_)
      exact j_ev.ret rfl
    · repeat (first | refine ev_go rfl (by rfl) ?_ | refine ev_gf rfl (by assumption) (by rfl) (by rfl) ?_)
      refine ev_icT rfl (by exact b_le (a := 500) (b := i) (by omega) (by omega) (by omega)) ?_
      repeat (first | refine ev_go rfl (by rfl) ?_ | refine ev_gf rfl (by assumption) (by rfl) (by rfl) ?_)
      exact j_ev.ret rfl
  | cons x rest ih =>
    intro pre c i m1 un fv e hw hs hi
    rw [List.length_cons] at hi
    obtain ⟨R, E, C, B, Wn, T, U, D, hb, hsb⟩ := Sy_bs hs
    obtain ⟨m2, fv2, a1, a2, a3, a4⟩ := gh_advance (d + 2) hp.1 hp.2.1 hw (Bs_Rd hb)
    have hs2 := Sy_wl hs a2 a4
    have hx : 1 ≤ x ∧ x ≤ 500 := hlt x (by rw [e]; simp)
    have hxm : v_mom fv2 = x := (sw_mom a3).trans (hp.1 x (by omega))
    have hxt : v_th fv2 = gT G x := sw_th a3
    have hlt' : ∀ y ∈ pre ++ x :: rest, y < 1023 := fun y hy => by
      have := hlt y (by rw [e]; exact hy)
      omega
    have hiff := unt_iff (K := gK G) (th := gT G) (S := mem5 (rms mm LV)) (pre := pre) (rest := rest) (x := x) (m := P) (tg := 0) (by rw [← e]; exact hso) hlt' (fun t => by rw [← e, hl]; simp) (by omega)
    have hu : unt (gK G) rest x < 2 ^ 31 := by
      cases rest with
      | nil => show 1023 < _; omega
      | cons y r =>
        have := hlt' y (by simp)
        show (if gK G y = gK G x then y else 1023) < _
        split <;> omega
    obtain ⟨hn2, aa2, fn2, wq2, -⟩ := id a4
    have ksm := x_Wk_isSomethingAt (d + 7) (m := P) wq2 hu (by omega)
    rw [hxm, hxt] at ksm
    obtain ⟨R', E', C', B', Wn', T', U', D', hb2, hsb2⟩ := Sy_bs hs2
    have kpr := x_Vi_present (d + 8) hsb2.2.1
    have v7 := hsb2.2.1.1
    have l4 := Sy_lt hs
    have l42 := Sy_lt hs2
    have w48 : ∃ fs, m1.2.2 48 = some (.inr (6, fs)) := by
      obtain ⟨hn, a, fn, q1, -⟩ := hw
      exact ⟨_, q1.1⟩
    obtain ⟨f48, w48⟩ := w48
    have w482 := wq2.1
    by_cases ck : gT G x = 1 ∧ x ≤ P ∧ P < unt (gK G) rest x
    · have hbd : bd (sst (gK G) (gT G) (mem5 (rms mm LV)) P x) = true := bd_t.mpr (hiff.mp ck)
      obtain ⟨mo, z1, z2, z3⟩ := ih (pre ++ [x]) (c + 1) (i + 1) m2 _ fv2 (by rw [e]; simp) a4 hs2 (by omega)
      refine ⟨mo, ?_, z2, Sf_trans (Sf_wf a2) z3⟩
      rw [if_pos ck] at ksm
      have ef : (x :: rest).filter (fun t => bd (sst (gK G) (gT G) (mem5 (rms mm LV)) P t)) = x :: rest.filter (fun t => bd (sst (gK G) (gT G) (mem5 (rms mm LV)) P t)) := List.filter_cons_of_pos hbd
      rw [ef, List.length_cons]
      rw [show c + 1 + (rest.filter (fun t => bd (sst (gK G) (gT G) (mem5 (rms mm LV)) P t))).length = c + ((rest.filter (fun t => bd (sst (gK G) (gT G) (mem5 (rms mm LV)) P t))).length + 1) by omega] at z1
      generalize c + ((rest.filter (fun t => bd (sst (gK G) (gT G) (mem5 (rms mm LV)) P t))).length + 1) = N at z1
      rw [← nI_1 c, ← nI_1 i] at z1
      repeat (first | refine ev_go rfl (by rfl) ?_ | refine ev_gf rfl (by assumption) (by rfl) (by rfl) ?_)
      refine ev_icF rfl (by exact b_nle (a := 500) (b := i) (by omega) (by omega) (by omega)) ?_
      repeat (first | refine ev_go rfl (by rfl) ?_ | refine ev_gf rfl (by assumption) (by rfl) (by rfl) ?_)
      refine ev_cv (as := []) rfl rfl rfl (by assumption) (by rfl) (by rfl) (a1) ?_
      repeat (first | refine ev_go rfl (by rfl) ?_ | refine ev_gf rfl (by assumption) (by rfl) (by rfl) ?_)
      refine ev_cv (as := []) rfl rfl rfl (by assumption) (by rfl) (by rfl) (kpr) ?_
      refine ev_cv (as := [.int (nI P)]) rfl rfl rfl (by assumption) (by rfl) (by rfl) (ksm) ?_
      repeat (first | exact z1 | refine ev_go rfl (by rfl) ?_ | refine ev_gf rfl (by assumption) (by rfl) (by rfl) ?_)
    · have hbd : ¬ bd (sst (gK G) (gT G) (mem5 (rms mm LV)) P x) = true := fun q => ck (hiff.mpr (bd_t.mp q))
      obtain ⟨mo, z1, z2, z3⟩ := ih (pre ++ [x]) c (i + 1) m2 _ fv2 (by rw [e]; simp) a4 hs2 (by omega)
      refine ⟨mo, ?_, z2, Sf_trans (Sf_wf a2) z3⟩
      rw [if_neg ck] at ksm
      have ef : (x :: rest).filter (fun t => bd (sst (gK G) (gT G) (mem5 (rms mm LV)) P t)) = rest.filter (fun t => bd (sst (gK G) (gT G) (mem5 (rms mm LV)) P t)) := List.filter_cons_of_neg hbd
      rw [ef]
      generalize c + (rest.filter (fun t => bd (sst (gK G) (gT G) (mem5 (rms mm LV)) P t))).length = N at z1 ⊢
      rw [← nI_1 i] at z1
      repeat (first | refine ev_go rfl (by rfl) ?_ | refine ev_gf rfl (by assumption) (by rfl) (by rfl) ?_)
      refine ev_icF rfl (by exact b_nle (a := 500) (b := i) (by omega) (by omega) (by omega)) ?_
      repeat (first | refine ev_go rfl (by rfl) ?_ | refine ev_gf rfl (by assumption) (by rfl) (by rfl) ?_)
      refine ev_cv (as := []) rfl rfl rfl (by assumption) (by rfl) (by rfl) (a1) ?_
      repeat (first | refine ev_go rfl (by rfl) ?_ | refine ev_gf rfl (by assumption) (by rfl) (by rfl) ?_)
      refine ev_cv (as := []) rfl rfl rfl (by assumption) (by rfl) (by rfl) (kpr) ?_
      refine ev_cv (as := [.int (nI P)]) rfl rfl rfl (by assumption) (by rfl) (by rfl) (ksm) ?_
      repeat (first | exact z1 | refine ev_go rfl (by rfl) ?_ | refine ev_gf rfl (by assumption) (by rfl) (by rfl) ?_)
theorem cl_cover (d : Nat) (hp : Pu G P mm LV) : ∀ (q r : Nat) (m1 : j_M) (hn un : Int32) (a sp : Nat → Nat) (fv fn : Nat → Int64) (x1 : Int32), r + q = 5 → Wq m1 hn un a sp fv fn (gW G (rms mm LV)) → Sy m1 G P s sh lv mm LV J Q → Cvd (rms mm LV) (fun _ => 0) r a sp →
    ∃ m2 a2 s2, (∀ o mo, j_ev (d + 10) (j_ex tb (d + 9)) (j_tab q_LT_countLiving) [] (o) (mo) 40 [some (.ref 4), some (.int x1), some (.int (nI 5))] [] m2 → j_ev (d + 10) (j_ex tb (d + 9)) (j_tab q_LT_countLiving) [] (o) (mo) 11 [some (.ref 4), some (.int x1), some (.int (nI r))] [] m1) ∧ Wq m2 hn un a2 s2 fv fn (gW G (rms mm LV)) ∧ Sy m2 G P s sh lv mm LV J Q ∧ Sf m1 m2 ∧ Cvd (rms mm LV) (fun _ => 0) 5 a2 s2 := by
  intro q
  induction q with
  | zero =>
    intro r m1 hn un a sp fv fn x1 hr hw hs hc
    have hr : r = 5 := by omega
    subst hr
    refine ⟨m1, a, sp, fun o mo kk => ?_, hw, hs, Sf_refl _, hc⟩
    repeat (first | exact kk | refine ev_go rfl (by rfl) ?_ | refine ev_gf rfl (by assumption) (by rfl) (by rfl) ?_)
  | succ q ih =>
    intro r m1 hn un a sp fv fn x1 hr hw hs hc
    have hr5 : r < 5 := by omega
    obtain ⟨R, E, C, B, Wn, T, U, D, hb, hsb⟩ := Sy_bs hs
    have hS := Bs_Sr hp.1 hp.2.1 hb
    have kc := (hS.2 (d + 8) m1 rfl (fun _ _ => rfl) hsb.2.2.2.2.1 r hr5).1
    change j_ex tb (d + 8 + 1) (rC (rc r)) [.ref (ra r)] m1 (.inl (some (.int (nI (rms mm LV r).length)))) m1 at kc
    obtain ⟨m2, a2, s2, k2, wf2, wq2, c1, c2, c3, c4⟩ := gh_cover (d + 3) (x := 0) (y := (rms mm LV r).length) hw hS.1 hr5 (Nat.le_refl _) (by omega) (hc.2 r (Nat.le_refl _) hr5)
    have hs2 : Sy m2 G P s sh lv mm LV J Q := Sy_sf hs (Sf_wf wf2) (Vs_wq hsb.2.2.2.2.1 wf2 wq2) ⟨_, _, _, _, _, _, _, wq2⟩
    obtain ⟨m3, a3, s3, z1, z2, z3, z4, z5⟩ := ih (r + 1) m2 hn un a2 s2 fv fn x1 (by omega) wq2 hs2 (Cvd_s hc hr5 c1 c2 c3 c4)
    refine ⟨m3, a3, s3, fun o mo kk => ?_, z2, z3, Sf_trans (Sf_wf wf2) z4, z5⟩
    have zz := z1 o mo kk
    rw [← nI_1 r] at zz
    have l4 := Sy_lt hs
    have w48 := hw.1
    obtain ⟨Hr, v1, v2⟩ := hsb.2.2.1
    obtain ⟨fs, hrun⟩ := (hS.1.1 r hr5).2
    have hcc := rc_or r
    generalize (rms mm LV r).length = N at kc k2
    generalize rc r = cc at *
    rcases hcc with rfl | rfl
    · repeat (first | refine ev_go rfl (by rfl) ?_ | refine ev_gf rfl (by assumption) (by rfl) (by rfl) ?_)
      refine ev_icF rfl (by exact b_nle (a := 5) (b := r) (by omega) (by omega) (by omega)) ?_
      repeat (first | refine ev_go rfl (by rfl) ?_ | refine ev_gf rfl (by assumption) (by rfl) (by rfl) ?_)
      refine ev_alqN (i := r) rfl (by assumption) (by rfl) (by omega) (by omega) ?_
      rw [v2 r hr5]
      refine ev_cv (as := []) rfl rfl rfl (by assumption) (by rfl) (by rfl) (kc) ?_
      refine ev_cv (as := [.int (nI r), .int (nI 0), .int (nI N)]) rfl rfl rfl (by assumption) (by rfl) (by rfl) (k2) ?_
      repeat (first | exact zz | refine ev_go rfl (by rfl) ?_ | refine ev_gf rfl (by assumption) (by rfl) (by rfl) ?_)
    · repeat (first | refine ev_go rfl (by rfl) ?_ | refine ev_gf rfl (by assumption) (by rfl) (by rfl) ?_)
      refine ev_icF rfl (by exact b_nle (a := 5) (b := r) (by omega) (by omega) (by omega)) ?_
      repeat (first | refine ev_go rfl (by rfl) ?_ | refine ev_gf rfl (by assumption) (by rfl) (by rfl) ?_)
      refine ev_alqN (i := r) rfl (by assumption) (by rfl) (by omega) (by omega) ?_
      rw [v2 r hr5]
      refine ev_cv (as := []) rfl rfl rfl (by assumption) (by rfl) (by rfl) (kc) ?_
      refine ev_cv (as := [.int (nI r), .int (nI 0), .int (nI N)]) rfl rfl rfl (by assumption) (by rfl) (by rfl) (k2) ?_
      repeat (first | exact zz | refine ev_go rfl (by rfl) ?_ | refine ev_gf rfl (by assumption) (by rfl) (by rfl) ?_)
theorem x_LT_count (d : Nat) (hP : P ≤ 500) (h : Sy mem G P s sh lv mm LV J Q) (hp : Pu G P mm LV) (hv : ∀ t, sst (gK G) (gT G) (mem5 (rms mm LV)) P t ↔ hst (gK G) (gT G) P t) :
    ∃ mo, j_ex tb (d + 10) m_LT_countLiving [.ref 4] mem (.inl (some (.int (nI (hcn (gK G) (gT G) P))))) mo ∧ Sy mo G P s sh lv mm LV J Q ∧ Sf mem mo := by
  obtain ⟨R, E, C, B, Wn, T, U, D, hb, hsb⟩ := Sy_bs h
  obtain ⟨hn, un, aa, sp, fv, fn, W, wq⟩ := hsb.2.2.2.2.2
  obtain ⟨m1, a', s', k1, wf1, h01, wq1⟩ := x_Wk_clear (d + 7) wq
  have wq1' : Wq m1 hn un a' s' fv fn (gW G (rms mm LV)) := Wq_cl wq1 h01
  have hs1 : Sy m1 G P s sh lv mm LV J Q := Sy_sf h (Sf_wf wf1) (Vs_wq hsb.2.2.2.2.1 wf1 wq1) ⟨_, _, _, _, _, _, _, wq1⟩
  obtain ⟨m2, a2, s2, z1, z2, z3, z4, z5⟩ := cl_cover d hp 5 0 m1 hn un a' s' fv fn 0 (by omega) wq1' hs1 ⟨fun r' c _ => by omega, fun r' _ c => h01 r' c⟩
  obtain ⟨l, l1, l2, l3⟩ := Cvd_l hp.2.1 z5
  obtain ⟨R2, E2, C2, B2, Wn2, T2, U2, D2, hb2, hsb2⟩ := Sy_bs z3
  obtain ⟨m3, k3, wf3, wl3⟩ := gh_begin (d + 2) hp.1 hp.2.1 z2 (Bs_Rd hb2) (fun r hr => (z5.1 r hr hr).2) l1
  have hs3 := Sy_wl z3 wf3 wl3
  have hl : ∀ t, t ∈ l ↔ mem5 (rms mm LV) t := fun t => by
    rw [l2]
    constructor
    · rintro ⟨r, hr, i, i1, i2, i3⟩
      exact ⟨r, hr, by rw [i3]; exact getD_mm i2⟩
    · rintro ⟨r, hr, w⟩
      obtain ⟨i, i1, i2⟩ := mm_getD w
      exact ⟨r, hr, i, Nat.zero_le _, i1, i2⟩
  have hlen : l.length ≤ 500 := pgr (a := 1) (n := 500) (So_nd l1.1) (fun x hx => by have := l3 x hx; omega)
  obtain ⟨mo, y1, y2, y3⟩ := cl_loop d hp hP l1.1 hl l [] 0 0 m3 un fv (by simp) wl3 hs3 (by omega)
  have hcn' := hcn_of (K := gK G) (th := gT G) (m := P) (l := l) (p := fun t => bd (sst (gK G) (gT G) (mem5 (rms mm LV)) P t)) (So_nd l1.1) (fun t => by
    rw [bd_t]
    constructor
    · exact fun q => (hv t).mp q.2
    · exact fun q => ⟨(hl t).mpr ((hv t).mpr q).1, (hv t).mpr q⟩)
  rw [Nat.zero_add, hcn'] at y1
  refine ⟨mo, ?_, y2, Sf_trans (Sf_wf wf1) (Sf_trans z4 (Sf_trans (Sf_wf wf3) y3))⟩
  have l4 := Sy_lt h
  have l42 := Sy_lt z3
  have w48 := wq.1
  have w482 := z2.1
  generalize nI (hcn (gK G) (gT G) P) = res at y1 ⊢
  have fin := z1 (.inl (some (.int res))) mo (by
    repeat (first | refine ev_go rfl (by rfl) ?_ | refine ev_gf rfl (by assumption) (by rfl) (by rfl) ?_)
    refine ev_cv (as := []) rfl rfl rfl (by assumption) (by rfl) (by rfl) (k3) ?_
    repeat (first | exact y1 | refine ev_go rfl (by rfl) ?_ | refine ev_gf rfl (by assumption) (by rfl) (by rfl) ?_))
  refine ⟨e_LT_countLiving, rfl, Nat.le_of_ble_eq_true rfl, ?_⟩
  repeat (first | refine ev_go rfl (by rfl) ?_ | refine ev_gf rfl (by assumption) (by rfl) (by rfl) ?_)
  refine ev_cv (as := []) rfl rfl rfl (by assumption) (by rfl) (by rfl) (k1) ?_
  repeat (first | exact fin | refine ev_go rfl (by rfl) ?_ | refine ev_gf rfl (by assumption) (by rfl) (by rfl) ?_)
end CNT
