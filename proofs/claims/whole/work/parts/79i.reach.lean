/-! LEVELTABLES: reachSomething (own text) -/
section REACH
variable {mem : j_M} {G : Nat → Nat → Int64} {P : Nat} {s : Nat → Option Nat} {sh lv : Int32} {mm : List Nat} {LV : Nat → List TG} {J Q m : Nat}
theorem rs_loop (d : Nat) (hp : Pu G P mm LV) (hm : m ≤ 500) {l : List Nat} {sp : Nat → Nat} {tg : Nat} (hso : So (gK G) l) (hl : ∀ t, t ∈ l ↔ mem5 (rms mm LV) t ∧ tg ≤ oN (gK G) t) : ∀ (rest pre : List Nat) (i : Nat) (m1 : j_M) (un : Int32) (fv : Nat → Int64), l = pre ++ rest → Wl m1 G (rms mm LV) sp un fv rest → Sy m1 G P s sh lv mm LV J Q → i + rest.length ≤ 500 →
    ∃ mo b, j_ev (d + 10) (j_ex tb (d + 9)) (j_tab q_LT_reachSomething) [] (.inl (some (.int (nI b)))) (mo) 59 [some (.ref 4), some (.int (nI m)), some (.int (nI i))] [] m1 ∧ Sy mo G P s sh lv mm LV J Q ∧ Sf m1 mo ∧
      ((b = 0 ∧ ∀ x ∈ rest, ¬ sst (gK G) (gT G) (mem5 (rms mm LV)) m x) ∨ (b = 1 ∧ ∃ p x q ff, rest = p ++ x :: q ∧ (∀ y ∈ p, ¬ sst (gK G) (gT G) (mem5 (rms mm LV)) m y) ∧ sst (gK G) (gT G) (mem5 (rms mm LV)) m x ∧ Ve mo 24 25 ff ∧ sw ff (G x))) := by
  have hlt : ∀ t ∈ l, 1 ≤ t ∧ t ≤ 500 := fun t ht => by
    obtain ⟨⟨r, h1, h2⟩, -⟩ := (hl t).mp ht
    exact hp.2.1.2.1 r h1 t h2
  intro rest
  induction rest with
  | nil =>
    intro pre i m1 un fv e hw hs hi
    have l4 := Sy_lt hs
    have k2 := gh_advance0 (d + 8) hw
    have w48 : ∃ fs, m1.2.2 48 = some (.inr (6, fs)) := by
      obtain ⟨hn, a, fn, q1, -⟩ := hw
      exact ⟨_, q1.1⟩
    obtain ⟨f48, w48⟩ := w48
    refine ⟨m1, 0, ?_, hs, Sf_refl _, Or.inl ⟨rfl, fun x hx => by cases hx⟩⟩
    by_cases ci : i < 500
    · repeat (first | refine ev_go rfl (by rfl) ?_ | refine ev_gf rfl (by assumption) (by rfl) (by rfl) ?_)
      refine ev_icF rfl (by exact b_nle (a := 500) (b := i) (by omega) (by omega) (by omega)) ?_
      repeat (first | refine ev_go rfl (by rfl) ?_ | refine ev_gf rfl (by assumption) (by rfl) (by rfl) ?_)
      refine ev_cv (as := []) rfl rfl rfl (by assumption) (by rfl) (by rfl) (k2) ?_
      repeat (first | refine ev_go rfl (by rfl) ?_ | refine ev_gf rfl (by assumption) (by rfl) (by rfl) ?_)
      exact j_ev.ret rfl
    · repeat (first | refine ev_go rfl (by rfl) ?_ | refine ev_gf rfl (by assumption) (by rfl) (by rfl) ?_)
      refine ev_icT rfl (by exact b_le (a := 500) (b := i) (by omega) (by omega) (by omega)) ?_
      repeat (first | refine ev_go rfl (by rfl) ?_ | refine ev_gf rfl (by assumption) (by rfl) (by rfl) ?_)
      exact j_ev.ret rfl
  | cons x rest ih =>
    intro pre i m1 un fv e hw hs hi
    rw [List.length_cons] at hi
    obtain ⟨R, E, C, B, Wn, T, U, D, hb, hsb⟩ := Sy_bs hs
    obtain ⟨m2, fv2, a1, a2, a3, a4⟩ := gh_advance (d + 2) hp.1 hp.2.1 hw (Bs_Rd hb)
    have hs2 := Sy_wl hs a2 a4
    have hx : 1 ≤ x ∧ x ≤ 500 := hlt x (by rw [e]; simp)
    have hxm : v_mom fv2 = x := (sw_mom a3).trans (hp.1 x (by omega))
    have hxt : v_th fv2 = gT G x := sw_th a3
    have hlt' : ∀ y ∈ pre ++ x :: rest, y < 1023 := fun y hy => by
      have := hlt y (by rw [e]; exact hy)
      omega
    have hiff := unt_iff (K := gK G) (th := gT G) (S := mem5 (rms mm LV)) (pre := pre) (rest := rest) (x := x) (m := m) (tg := tg) (by rw [← e]; exact hso) hlt' (fun t => by rw [← e, hl]) (by omega)
    have hu : unt (gK G) rest x < 2 ^ 31 := by
      cases rest with
      | nil => show 1023 < _; omega
      | cons y r =>
        have := hlt' y (by simp)
        show (if gK G y = gK G x then y else 1023) < _
        split <;> omega
    obtain ⟨hn2, aa2, fn2, wq2, -⟩ := id a4
    have ksm := x_Wk_isSomethingAt (d + 7) (m := m) wq2 hu (by omega)
    rw [hxm, hxt] at ksm
    obtain ⟨R', E', C', B', Wn', T', U', D', hb2, hsb2⟩ := Sy_bs hs2
    have l4 := Sy_lt hs
    have l42 := Sy_lt hs2
    have w48 : ∃ fs, m1.2.2 48 = some (.inr (6, fs)) := by
      obtain ⟨hn, a, fn, q1, -⟩ := hw
      exact ⟨_, q1.1⟩
    obtain ⟨f48, w48⟩ := w48
    have w482 := wq2.1
    by_cases ck : gT G x = 1 ∧ x ≤ m ∧ m < unt (gK G) rest x
    · rw [if_pos ck] at ksm
      obtain ⟨ff0, hff⟩ := hsb2.2.2.2.2.1 24 (by unfold vcell; omega)
      have kver := x_Wk_version (d + 8) wq2
      have kc := x_Ve_copy (d + 8) hff wq2.2.2.2.2.2.1 (by omega) (by omega)
      have swf : sw (va_cpy fv2 ff0 0 0 6) (G x) := fun j hj => (v_cpy hj).trans (a3 j hj)
      change j_ex tb (d + 8 + 1) m_Ve_copy [.ref 24, .ref 52] m2 (.inl none) (j_set m2 25 (vW (va_cpy fv2 ff0 0 0 6))) at kc
      generalize va_cpy fv2 ff0 0 0 6 = ff at kc swf
      have sf3 : Sf m2 (j_set m2 25 (vW ff)) := Sf_set _ _ (by unfold scell; omega)
      have vs3 : Vs (j_set m2 25 (vW ff)) := Vs_set (v := 24) hsb2.2.2.2.2.1 (by unfold vcell; omega) ff
      have wz3 : Wz (j_set m2 25 (vW ff)) := ⟨_, _, _, _, _, _, _, Wq_fr wq2 (fun c c1 c2 => st_ne _ _ (by omega)) (st_ne _ _ (by omega))⟩
      refine ⟨j_set m2 25 (vW ff), 1, ?_, Sy_sf hs2 sf3 vs3 wz3, Sf_trans (Sf_wf a2) sf3, Or.inr ⟨rfl, [], x, rest, ff, rfl, fun y hy => (by cases hy), hiff.mp ck, ⟨hff.1, rfl⟩, swf⟩⟩
      have v24 := hff.1
      repeat (first | refine ev_go rfl (by rfl) ?_ | refine ev_gf rfl (by assumption) (by rfl) (by rfl) ?_)
      refine ev_icF rfl (by exact b_nle (a := 500) (b := i) (by omega) (by omega) (by omega)) ?_
      repeat (first | refine ev_go rfl (by rfl) ?_ | refine ev_gf rfl (by assumption) (by rfl) (by rfl) ?_)
      refine ev_cv (as := []) rfl rfl rfl (by assumption) (by rfl) (by rfl) (a1) ?_
      repeat (first | refine ev_go rfl (by rfl) ?_ | refine ev_gf rfl (by assumption) (by rfl) (by rfl) ?_)
      refine ev_cv (as := [.int (nI m)]) rfl rfl rfl (by assumption) (by rfl) (by rfl) (ksm) ?_
      repeat (first | refine ev_go rfl (by rfl) ?_ | refine ev_gf rfl (by assumption) (by rfl) (by rfl) ?_)
      refine ev_cv (as := []) rfl rfl rfl (by assumption) (by rfl) (by rfl) (kver) ?_
      refine ev_cv (as := [.ref 52]) rfl rfl rfl (by assumption) (by rfl) (by rfl) (kc) ?_
      repeat (first | refine ev_go rfl (by rfl) ?_ | refine ev_gf rfl (by assumption) (by rfl) (by rfl) ?_)
      exact j_ev.ret rfl
    · obtain ⟨mo, b, z1, z2, z3, z4⟩ := ih (pre ++ [x]) (i + 1) m2 _ fv2 (by rw [e]; simp) a4 hs2 (by omega)
      rw [if_neg ck] at ksm
      have hno : ¬ sst (gK G) (gT G) (mem5 (rms mm LV)) m x := fun q => ck (hiff.mpr q)
      refine ⟨mo, b, ?_, z2, Sf_trans (Sf_wf a2) z3, ?_⟩
      · rw [← nI_1 i] at z1
        repeat (first | refine ev_go rfl (by rfl) ?_ | refine ev_gf rfl (by assumption) (by rfl) (by rfl) ?_)
        refine ev_icF rfl (by exact b_nle (a := 500) (b := i) (by omega) (by omega) (by omega)) ?_
        repeat (first | refine ev_go rfl (by rfl) ?_ | refine ev_gf rfl (by assumption) (by rfl) (by rfl) ?_)
        refine ev_cv (as := []) rfl rfl rfl (by assumption) (by rfl) (by rfl) (a1) ?_
        repeat (first | refine ev_go rfl (by rfl) ?_ | refine ev_gf rfl (by assumption) (by rfl) (by rfl) ?_)
        refine ev_cv (as := [.int (nI m)]) rfl rfl rfl (by assumption) (by rfl) (by rfl) (ksm) ?_
        repeat (first | exact z1 | refine ev_go rfl (by rfl) ?_ | refine ev_gf rfl (by assumption) (by rfl) (by rfl) ?_)
      · rcases z4 with ⟨y1, y2⟩ | ⟨y1, p, y, q, ff, y2, y3, y4⟩
        · refine Or.inl ⟨y1, fun z hz => ?_⟩
          rcases List.mem_cons.mp hz with w | w
          · rw [w]
            exact hno
          · exact y2 z w
        · refine Or.inr ⟨y1, x :: p, y, q, ff, by rw [y2]; rfl, fun z hz => ?_, y4⟩
          rcases List.mem_cons.mp hz with w | w
          · rw [w]
            exact hno
          · exact y3 z w
/-- where the runs come up to the target -/
def Fnd (G : Nat → Nat → Int64) (ms : Nat → List Nat) (tg : Nat) (x : Nat → Nat) (r : Nat) : Prop := ∀ r', r' < r → r' < 5 → x r' ≤ (ms r').length ∧ (∀ i, i < x r' → oN (gK G) ((ms r').getD i 0) < tg) ∧ ∀ i, x r' ≤ i → i < (ms r').length → tg ≤ oN (gK G) ((ms r').getD i 0)
theorem rs_cover (d : Nat) {fk : Nat → Int64} (hp : Pu G P mm LV) : ∀ (q r : Nat) (m1 : j_M) (hn un : Int32) (a sp x : Nat → Nat) (fv fn : Nat → Int64), r + q = 5 → Wq m1 hn un a sp fv fn (gW G (rms mm LV)) → Sy m1 G P s sh lv mm LV J Q → Ve m1 20 21 fk → Cvd (rms mm LV) x r a sp → Fnd G (rms mm LV) (v_ord fk) x r →
    ∃ m2 a2 s2 x2, (∀ o mo, j_ev (d + 10) (j_ex tb (d + 9)) (j_tab q_LT_reachSomething) [] (o) (mo) 50 [some (.ref 4), some (.int (nI m)), some (.int (nI 5))] [] m2 → j_ev (d + 10) (j_ex tb (d + 9)) (j_tab q_LT_reachSomething) [] (o) (mo) 9 [some (.ref 4), some (.int (nI m)), some (.int (nI r))] [] m1) ∧ Wq m2 hn un a2 s2 fv fn (gW G (rms mm LV)) ∧ Sy m2 G P s sh lv mm LV J Q ∧ Sf m1 m2 ∧ Cvd (rms mm LV) x2 5 a2 s2 ∧ Fnd G (rms mm LV) (v_ord fk) x2 5 := by
  intro q
  induction q with
  | zero =>
    intro r m1 hn un a sp x fv fn hr hw hs hk hc hx
    have hr : r = 5 := by omega
    subst hr
    refine ⟨m1, a, sp, x, fun o mo kk => ?_, hw, hs, Sf_refl _, hc, hx⟩
    repeat (first | exact kk | refine ev_go rfl (by rfl) ?_ | refine ev_gf rfl (by assumption) (by rfl) (by rfl) ?_)
  | succ q ih =>
    intro r m1 hn un a sp x fv fn hr hw hs hk hc hx
    have hr5 : r < 5 := by omega
    obtain ⟨R, E, C, B, Wn, T, U, D, hb, hsb⟩ := Sy_bs hs
    have hS := Bs_Sr hp.1 hp.2.1 hb
    have hra : ra r = 14 ∨ ra r = 32 ∨ ra r = 36 ∨ ra r = 40 ∨ ra r = 44 := by
      unfold ra
      split <;> omega
    obtain ⟨-, hfnb⟩ := hS.2 (d + 1) m1 rfl (fun _ _ => rfl) hsb.2.2.2.2.1 r hr5
    obtain ⟨k, f'', g1, g2, g3, kf⟩ := hfnb 20 fk (by unfold vcell; omega) (by omega) hk
    change k ≤ (rms mm LV r).length at g1
    change ∀ i, k ≤ i → i < (rms mm LV r).length → _ at g3
    have sfm : Sf m1 (j_set m1 (ra r + 2) (vW f'')) := Sf_set _ _ (by unfold scell; omega)
    have vsm : Vs (j_set m1 (ra r + 2) (vW f'')) := Vs_set (v := ra r + 1) hsb.2.2.2.2.1 (by unfold vcell; omega) f''
    have wqm : Wq (j_set m1 (ra r + 2) (vW f'')) hn un a sp fv fn (gW G (rms mm LV)) := Wq_fr hw (fun c c1 c2 => st_ne _ _ (by omega)) (st_ne _ _ (by omega))
    have hkm : Ve (j_set m1 (ra r + 2) (vW f'')) 20 21 fk := ⟨by rw [st_ne _ _ (by omega)]; exact hk.1, by rw [st_ne _ _ (by omega)]; exact hk.2⟩
    have hsm : Sy (j_set m1 (ra r + 2) (vW f'')) G P s sh lv mm LV J Q := Sy_sf hs sfm vsm ⟨_, _, _, _, _, _, _, wqm⟩
    generalize hmm : j_set m1 (ra r + 2) (vW f'') = mk1 at *
    obtain ⟨R', E', C', B', Wn', T', U', D', hb', hsb'⟩ := Sy_bs hsm
    have hS' := Bs_Sr hp.1 hp.2.1 hb'
    have kc := (hS'.2 (d + 8) mk1 rfl (fun _ _ => rfl) hsb'.2.2.2.2.1 r hr5).1
    change j_ex tb (d + 8 + 1) (rC (rc r)) [.ref (ra r)] mk1 (.inl (some (.int (nI (rms mm LV r).length)))) mk1 at kc
    have hlen : (rms mm LV r).length < 2 ^ 20 := (hS.1.1 r hr5).1
    obtain ⟨m2, a2, s2, k2, wf2, wq2, c1, c2, c3, c4⟩ := gh_cover (d + 3) (x := k) (y := (rms mm LV r).length) wqm hS'.1 hr5 (Nat.le_refl _) (by omega) (hc.2 r (Nat.le_refl _) hr5)
    have hs2 : Sy m2 G P s sh lv mm LV J Q := Sy_sf hsm (Sf_wf wf2) (Vs_wq vsm wf2 wq2) ⟨_, _, _, _, _, _, _, wq2⟩
    have hk2 : Ve m2 20 21 fk := ⟨(wf2.2.2 20 (by omega)).trans hkm.1, (wf2.2.2 21 (by omega)).trans hkm.2⟩
    have hc' : Cvd (rms mm LV) (va_up x r k) r a sp := ⟨fun r' h1 h2 => by rw [va_up_ne _ _ (by omega)]; exact hc.1 r' h1 h2, hc.2⟩
    have hx' : Fnd G (rms mm LV) (v_ord fk) (va_up x r k) (r + 1) := fun r' h1 h2 => by
      by_cases cr : r' = r
      · subst cr
        rw [va_up_self]
        refine ⟨g1, fun i hi => ?_, fun i hi hi2 => ?_⟩
        · have hlt := Rg_lt hp.2.1 hr5 (show i < (rms mm LV r').length by omega)
          have := g2 i hi
          unfold gW at this
          rwa [gO hp.1 (by omega)] at this
        · have hlt := Rg_lt hp.2.1 hr5 hi2
          have := g3 i hi hi2
          unfold gW at this
          rwa [gO hp.1 (by omega)] at this
      · rw [va_up_ne _ _ cr]
        exact hx r' (by omega) h2
    obtain ⟨m3, a3, s3, x3, z1, z2, z3, z4, z5, z6⟩ := ih (r + 1) m2 hn un a2 s2 (va_up x r k) fv fn (by omega) wq2 hs2 hk2 (Cvd_s hc' hr5 c1 (fun i => by rw [va_up_self]; exact c2 i) c3 c4) hx'
    refine ⟨m3, a3, s3, x3, fun o mo kk => ?_, z2, z3, Sf_trans sfm (Sf_trans (Sf_wf wf2) z4), z5, z6⟩
    have zz := z1 o mo kk
    rw [← nI_1 r] at zz
    have l4 := Sy_lt hs
    have l42 := Sy_lt hsm
    have w48 := wqm.1
    obtain ⟨Hr, v1, v2⟩ := hsb.2.2.1
    obtain ⟨Hr', v1', v2'⟩ := hsb'.2.2.1
    obtain ⟨fs, hrun⟩ := (hS.1.1 r hr5).2
    obtain ⟨fs', hrun'⟩ := (hS'.1.1 r hr5).2
    have hcc := rc_or r
    clear hmm
    generalize (rms mm LV r).length = N at kc k2
    generalize rc r = cc at *
    rcases hcc with rfl | rfl
    · repeat (first | refine ev_go rfl (by rfl) ?_ | refine ev_gf rfl (by assumption) (by rfl) (by rfl) ?_)
      refine ev_icF rfl (by exact b_nle (a := 5) (b := r) (by omega) (by omega) (by omega)) ?_
      repeat (first | refine ev_go rfl (by rfl) ?_ | refine ev_gf rfl (by assumption) (by rfl) (by rfl) ?_)
      refine ev_alqN (i := r) rfl (by assumption) (by rfl) (by omega) (by omega) ?_
      rw [v2 r hr5]
      repeat (first | refine ev_go rfl (by rfl) ?_ | refine ev_gf rfl (by assumption) (by rfl) (by rfl) ?_)
      refine ev_cv (as := [.ref 20]) rfl rfl rfl (by assumption) (by rfl) (by rfl) (kf) ?_
      repeat (first | refine ev_go rfl (by rfl) ?_ | refine ev_gf rfl (by assumption) (by rfl) (by rfl) ?_)
      refine ev_alqN (i := r) rfl (by assumption) (by rfl) (by omega) (by omega) ?_
      rw [v2' r hr5]
      refine ev_cv (as := []) rfl rfl rfl (by assumption) (by rfl) (by rfl) (kc) ?_
      refine ev_cv (as := [.int (nI r), .int (nI k), .int (nI N)]) rfl rfl rfl (by assumption) (by rfl) (by rfl) (k2) ?_
      repeat (first | exact zz | refine ev_go rfl (by rfl) ?_ | refine ev_gf rfl (by assumption) (by rfl) (by rfl) ?_)
    · repeat (first | refine ev_go rfl (by rfl) ?_ | refine ev_gf rfl (by assumption) (by rfl) (by rfl) ?_)
      refine ev_icF rfl (by exact b_nle (a := 5) (b := r) (by omega) (by omega) (by omega)) ?_
      repeat (first | refine ev_go rfl (by rfl) ?_ | refine ev_gf rfl (by assumption) (by rfl) (by rfl) ?_)
      refine ev_alqN (i := r) rfl (by assumption) (by rfl) (by omega) (by omega) ?_
      rw [v2 r hr5]
      repeat (first | refine ev_go rfl (by rfl) ?_ | refine ev_gf rfl (by assumption) (by rfl) (by rfl) ?_)
      refine ev_cv (as := [.ref 20]) rfl rfl rfl (by assumption) (by rfl) (by rfl) (kf) ?_
      repeat (first | refine ev_go rfl (by rfl) ?_ | refine ev_gf rfl (by assumption) (by rfl) (by rfl) ?_)
      refine ev_alqN (i := r) rfl (by assumption) (by rfl) (by omega) (by omega) ?_
      rw [v2' r hr5]
      refine ev_cv (as := []) rfl rfl rfl (by assumption) (by rfl) (by rfl) (kc) ?_
      refine ev_cv (as := [.int (nI r), .int (nI k), .int (nI N)]) rfl rfl rfl (by assumption) (by rfl) (by rfl) (k2) ?_
      repeat (first | exact zz | refine ev_go rfl (by rfl) ?_ | refine ev_gf rfl (by assumption) (by rfl) (by rfl) ?_)
theorem x_LT_reach (d : Nat) {fk : Nat → Int64} (hm : m ≤ 500) (h : Sy mem G P s sh lv mm LV J Q) (hp : Pu G P mm LV) (hk : Ve mem 20 21 fk) :
    ∃ mo b, j_ex tb (d + 10) m_LT_reachSomething [.ref 4, .int (nI m)] mem (.inl (some (.int (nI b)))) mo ∧ Sy mo G P s sh lv mm LV J Q ∧ Sf mem mo ∧
      ((b = 0 ∧ ∀ t, sst (gK G) (gT G) (mem5 (rms mm LV)) m t → oN (gK G) t < v_ord fk) ∨ (b = 1 ∧ ∃ x ff, sst (gK G) (gT G) (mem5 (rms mm LV)) m x ∧ v_ord fk ≤ oN (gK G) x ∧ (∀ t, sst (gK G) (gT G) (mem5 (rms mm LV)) m t → v_ord fk ≤ oN (gK G) t → oN (gK G) x ≤ oN (gK G) t) ∧ Ve mo 24 25 ff ∧ sw ff (G x))) := by
  obtain ⟨R, E, C, B, Wn, T, U, D, hb, hsb⟩ := Sy_bs h
  obtain ⟨hn, un, aa, sp, fv, fn, W, wq⟩ := hsb.2.2.2.2.2
  obtain ⟨m1, a', s', k1, wf1, h01, wq1⟩ := x_Wk_clear (d + 7) wq
  have wq1' : Wq m1 hn un a' s' fv fn (gW G (rms mm LV)) := Wq_cl wq1 h01
  have hs1 : Sy m1 G P s sh lv mm LV J Q := Sy_sf h (Sf_wf wf1) (Vs_wq hsb.2.2.2.2.1 wf1 wq1) ⟨_, _, _, _, _, _, _, wq1⟩
  have hk1 : Ve m1 20 21 fk := ⟨(wf1.2.2 20 (by omega)).trans hk.1, (wf1.2.2 21 (by omega)).trans hk.2⟩
  obtain ⟨m2, a2, s2, x2, z1, z2, z3, z4, z5, z6⟩ := rs_cover d (m := m) hp 5 0 m1 hn un a' s' (fun _ => 0) fv fn (by omega) wq1' hs1 hk1 ⟨fun r' c _ => by omega, fun r' _ c => h01 r' c⟩ (fun r' c _ => by omega)
  obtain ⟨l, l1, l2, l3⟩ := Cvd_l hp.2.1 z5
  obtain ⟨R2, E2, C2, B2, Wn2, T2, U2, D2, hb2, hsb2⟩ := Sy_bs z3
  obtain ⟨m3, k3, wf3, wl3⟩ := gh_begin (d + 2) hp.1 hp.2.1 z2 (Bs_Rd hb2) (fun r hr => (z5.1 r hr hr).2) l1
  have hs3 := Sy_wl z3 wf3 wl3
  have hl : ∀ t, t ∈ l ↔ mem5 (rms mm LV) t ∧ v_ord fk ≤ oN (gK G) t := fun t => by
    rw [l2]
    constructor
    · rintro ⟨r, hr, i, i1, i2, i3⟩
      exact ⟨⟨r, hr, by rw [i3]; exact getD_mm i2⟩, by rw [i3]; exact (z6 r hr hr).2.2 i i1 i2⟩
    · rintro ⟨⟨r, hr, w⟩, w2⟩
      obtain ⟨i, i1, i2⟩ := mm_getD w
      refine ⟨r, hr, i, ?_, i1, i2⟩
      rcases Nat.lt_or_ge i (x2 r) with c | c
      · have := (z6 r hr hr).2.1 i c
        rw [← i2] at this
        omega
      · exact c
  have hlen : l.length ≤ 500 := pgr (a := 1) (n := 500) (So_nd l1.1) (fun x hx => by have := l3 x hx; omega)
  obtain ⟨mo, b, y1, y2, y3, y4⟩ := rs_loop d hp hm l1.1 hl l [] 0 m3 un fv (by simp) wl3 hs3 (by omega)
  refine ⟨mo, b, ?_, y2, Sf_trans (Sf_wf wf1) (Sf_trans z4 (Sf_trans (Sf_wf wf3) y3)), ?_⟩
  · have l4 := Sy_lt h
    have l42 := Sy_lt z3
    have w48 := wq.1
    have w482 := z2.1
    have fin := z1 (.inl (some (.int (nI b)))) mo (by
      repeat (first | refine ev_go rfl (by rfl) ?_ | refine ev_gf rfl (by assumption) (by rfl) (by rfl) ?_)
      refine ev_cv (as := []) rfl rfl rfl (by assumption) (by rfl) (by rfl) (k3) ?_
      repeat (first | exact y1 | refine ev_go rfl (by rfl) ?_ | refine ev_gf rfl (by assumption) (by rfl) (by rfl) ?_))
    refine ⟨e_LT_reachSomething, rfl, Nat.le_of_ble_eq_true rfl, ?_⟩
    repeat (first | refine ev_go rfl (by rfl) ?_ | refine ev_gf rfl (by assumption) (by rfl) (by rfl) ?_)
    refine ev_cv (as := []) rfl rfl rfl (by assumption) (by rfl) (by rfl) (k1) ?_
    repeat (first | exact fin | refine ev_go rfl (by rfl) ?_ | refine ev_gf rfl (by assumption) (by rfl) (by rfl) ?_)
  · rcases y4 with ⟨q1, q2⟩ | ⟨q1, p, x, q, ff, q2, q3, q4, q5, q6⟩
    · refine Or.inl ⟨q1, fun t ht => ?_⟩
      rcases Nat.lt_or_ge (oN (gK G) t) (v_ord fk) with c | c
      · exact c
      · exact absurd ht (q2 t ((hl t).mpr ⟨ht.1, c⟩))
    · refine Or.inr ⟨q1, x, ff, q4, ((hl x).mp (by rw [q2]; simp)).2, fun t ht hc => ?_, q5, q6⟩
      have hin := (hl t).mpr ⟨ht.1, hc⟩
      have hso := l1.1
      rw [q2] at hin hso
      have hs' := List.pairwise_append.mp hso
      rcases List.mem_append.mp hin with w | w
      · exact absurd ht (q3 t w)
      · rcases List.mem_cons.mp w with w | w
        · rw [w]
          exact Nat.le_refl _
        · exact Nat.le_of_lt ((List.pairwise_cons.mp hs'.2.1).1 t w)
end REACH
