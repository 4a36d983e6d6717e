/-! LEVELTABLES: pushDown (own text) -/
theorem So_ends {K : Nat → Nat} {l : List Nat} (h : So K l) (hlt : ∀ t ∈ l, t < 1023) {x : Nat} (hx : x ∈ l) : K (l.getD 0 0) ≤ K x ∧ K x ≤ K (l.getD (l.length - 1) 0) := by
  obtain ⟨i, hi, rfl⟩ := mm_getD hx
  constructor
  · rcases Nat.eq_zero_or_pos i with c | c
    · subst c
      exact Nat.le_refl _
    · have h1 := So_get h c hi
      have h2 := hlt _ (getD_mm hi)
      have h3 := hlt _ (getD_mm (show 0 < l.length by omega))
      have := (oN_lt (K := K) (by omega) (by omega)).mp h1
      omega
  · rcases Nat.lt_or_ge i (l.length - 1) with c | c
    · have h1 := So_get h c (by omega)
      have h2 := hlt _ (getD_mm hi)
      have h3 := hlt _ (getD_mm (show l.length - 1 < l.length by omega))
      have := (oN_lt (K := K) (by omega) (by omega)).mp h1
      omega
    · rw [show l.length - 1 = i by omega]
      exact Nat.le_refl _
/-- the versions' way down that is left -/
def phi (mm : List Nat) (LV : Nat → List TG) : Nat := 4 * mm.length + 3 * (lms (LV 0)).flatten.length + 2 * (lms (LV 1)).flatten.length + (lms (LV 2)).flatten.length
/-- what stands at the moments that are seen is the same -/
def Same (G : Nat → Nat → Int64) (P : Nat) (s : Nat → Option Nat) (ms ms' : Nat → List Nat) : Prop := ∀ m, vis P s m → ∀ t, sst (gK G) (gT G) (mem5 ms') m t ↔ sst (gK G) (gT G) (mem5 ms) m t
theorem Wq_cl {mem : j_M} {hn un : Int32} {a s : Nat → Nat} {fv fn : Nat → Int64} {W W' : Nat → Nat → Nat → Int64} (h : Wq mem hn un a s fv fn W) (h0 : ∀ r, r < 5 → a r = 0 ∧ s r = 0) : Wq mem hn un a s fv fn W' := by
  obtain ⟨w1, w2, w3, w4, w5, w6, w7, w8⟩ := h
  refine ⟨w1, w2, w3, w4, w5, w6, w7, fun r hr => ?_⟩
  obtain ⟨f, e1, -⟩ := w8 r hr
  refine ⟨f, e1, fun q => ?_⟩
  have := h0 r hr
  omega
section PUSH
variable {mem : j_M} {G : Nat → Nat → Int64} {P : Nat} {s : Nat → Option Nat} {sh lv : Int32} {mm mm' : List Nat} {LV LV' : Nat → List TG} {J Q u lo hi a b : Nat} {l0 rest ml kp : List Nat} {fs : List TG}
theorem lms_td (l : List TG) (a b : Nat) : ((lms l).take b).drop a = lms ((l.take b).drop a) := by
  unfold lms
  rw [List.map_drop, List.map_take]
theorem dn_fin (hp : Pu G P mm LV) (hu : u < 4) (h0 : rms mm LV u = l0 ++ rest) (hr : ∀ x ∈ l0, ∀ y ∈ rest, gK G x < gK G y) (ho : Ovl (gK G) (lms (LV u)) lo hi a b) (hl0 : ∀ x ∈ l0, lo ≤ gK G x ∧ gK G x ≤ hi)
    (hml : ∀ t, t ∈ ml ↔ t ∈ l0 ∨ t ∈ (((lms (LV u)).take b).drop a).flatten) (hk : Kpt (gK G) (gT G) (vis P s) (mem5 (rms mm LV)) (dpr (rms mm LV) u) ml kp) (hsk : So (gK G) kp) (hfs : (lms fs).flatten = kp) (hap : (lms fs).Pairwise (apt (gK G))) (hne : ∀ q ∈ lms fs, q ≠ [])
    (e0 : rms mm' LV' u = rest) (e1 : LV' u = (LV u).take a ++ fs ++ (LV u).drop b) (e2 : ∀ r, r < 5 → r ≠ u → r ≠ u + 1 → rms mm' LV' r = rms mm LV r) (e3 : ∀ k, k < 4 → k ≠ u → (lms (LV' k)).Pairwise (apt (gK G)) ∧ ∀ q ∈ lms (LV' k), q ≠ []) :
    Pu G P mm' LV' ∧ Same G P s (rms mm LV) (rms mm' LV') := by
  obtain ⟨p1, ⟨p2, p3, p4⟩, p5, p6⟩ := hp
  have hm1 : rms mm LV (u + 1) = (lms (LV u)).flatten := by
    unfold rms
    rw [if_neg (by omega)]
    rfl
  have hm1' : rms mm' LV' (u + 1) = ((lms (LV u)).take a ++ lms fs ++ (lms (LV u)).drop b).flatten := by
    unfold rms
    rw [if_neg (by omega)]
    show (lms (LV' u)).flatten = _
    rw [e1, lms_app, lms_app]
    unfold lms
    rw [List.map_take, List.map_drop]
  have hcov := dn_cov p4 hu h0 hr hm1 (p6 u hu).1 ho hl0 hml
  have hms := dn_ms (ms' := rms mm' LV') (kp := kp) p4 hu h0 hr hm1 (p6 u hu).1 ho hml hfs e0 hm1' e2
  have hmem : ∀ r, r < 5 → ∀ t ∈ rms mm' LV' r, 1 ≤ t ∧ t ≤ 500 ∧ t ≤ P := fun r hr t ht => by
    rcases (hms r hr t).mp ht with q | q
    · have := p3 r hr t q.1
      have := p5 r hr t q.1
      omega
    · obtain ⟨r', g1, g2⟩ := hcov.1 t (hk.1 t q.2)
      have := p3 r' (by omega) t g2
      have := p5 r' (by omega) t g2
      omega
  have hapt := dn_apt (p6 u hu).1 ho hl0 hml hfs hap hk.1
  have hl1 : lms (LV' u) = (lms (LV u)).take a ++ lms fs ++ (lms (LV u)).drop b := by
    rw [e1, lms_app, lms_app]
    unfold lms
    rw [List.map_take, List.map_drop]
  refine ⟨⟨p1, ⟨fun r hr => ?_, fun r hr t ht => ⟨(hmem r hr t ht).1, (hmem r hr t ht).2.1⟩, Cov_age p4 hcov hk.1 hms⟩, fun r hr t ht => (hmem r hr t ht).2.2, fun k hk' => ?_⟩, fun m hm t => Cov_val p4 hcov hu hk hms hm t⟩
  · by_cases c : r = u
    · subst c
      rw [e0]
      have := p2 r hr
      rw [h0] at this
      exact (List.pairwise_append.mp this).2.1
    · by_cases c2 : r = u + 1
      · subst c2
        rw [hm1']
        refine So_fl _ (fun t ht => ?_) hapt (fun q hq => ?_)
        · rw [← hm1'] at ht
          have := (hmem (u + 1) hr t ht).2.1
          omega
        · have sub : ∀ q ∈ lms (LV u), So (gK G) q := fun q hq => So_sub (by rw [← hm1]; exact p2 (u + 1) hr) (List.sublist_flatten_of_mem hq)
          rcases List.mem_append.mp hq with w | w
          · rcases List.mem_append.mp w with w | w
            · exact sub q (List.mem_of_mem_take w)
            · exact So_sub (by rw [hfs]; exact hsk) (List.sublist_flatten_of_mem w)
          · exact sub q (List.mem_of_mem_drop w)
      · rw [e2 r hr c c2]
        exact p2 r hr
  · by_cases c : k = u
    · subst c
      rw [hl1]
      refine ⟨hapt, fun q hq => ?_⟩
      rcases List.mem_append.mp hq with w | w
      · rcases List.mem_append.mp w with w | w
        · exact (p6 k hk').2 q (List.mem_of_mem_take w)
        · exact hne q w
      · exact (p6 k hk').2 q (List.mem_of_mem_drop w)
    · exact e3 k hk' c
/-- how many versions the batch leaves -/
theorem dn_len (hab : a ≤ b) (hml : ∀ t, t ∈ ml ↔ t ∈ l0 ∨ t ∈ (((lms (LV u)).take b).drop a).flatten) (hsub : ∀ x ∈ kp, x ∈ ml) (hsk : So (gK G) kp) (hfs : (lms fs).flatten = kp) (e1 : LV' u = (LV u).take a ++ fs ++ (LV u).drop b) : (lms (LV' u)).flatten.length ≤ (lms (LV u)).flatten.length + l0.length := by
  have h1 := pg kp (l0 ++ (((lms (LV u)).take b).drop a).flatten) (So_nd hsk) (fun x hx => List.mem_append.mpr ((hml x).mp (hsub x hx)))
  have h2 : (lms (LV u)).flatten.length = ((lms (LV u)).take a).flatten.length + ((((lms (LV u)).take b).drop a).flatten.length + ((lms (LV u)).drop b).flatten.length) := by
    conv => lhs; rw [cut_eq (ts := lms (LV u)) hab]
    rw [List.flatten_append, List.flatten_append, List.length_append, List.length_append]
  have h3 : lms (LV' u) = (lms (LV u)).take a ++ lms fs ++ (lms (LV u)).drop b := by
    rw [e1, lms_app, lms_app]
    unfold lms
    rw [List.map_take, List.map_drop]
  rw [h3, List.flatten_append, List.flatten_append, List.length_append, List.length_append, hfs]
  rw [List.length_append] at h1
  omega
theorem ra_s (q : Nat) : ra (q + 1) = 32 + 4 * q := by
  unfold ra
  rw [if_neg (by omega)]
  omega
theorem rL_s (q : Nat) : rL (rc (q + 1)) = m_Lv_load := by
  have h : rc (q + 1) = 5 := if_neg (by omega)
  rw [h]
  rfl
theorem Sx_lv {mem : j_M} {LV : Nat → List TG} (h : Sx mem G P s sh lv mm LV J Q) {k : Nat} (hk : k < 4) : ∃ fs, mem.2.2 (32 + 4 * k) = some (.inr (5, fs)) := by
  obtain ⟨R, E, C, B, Wn, T, U, D, e, cap, -, h2, -⟩ := h
  exact ⟨_, (h2.2.2.2.1 k hk).1.1⟩
theorem Sx_lt {mem : j_M} {LV : Nat → List TG} (h : Sx mem G P s sh lv mm LV J Q) : mem.2.2 4 = some (ltC sh lv) := by
  obtain ⟨R, E, C, B, Wn, T, U, D, e, cap, h1, -⟩ := h
  exact h1.1
theorem Sx_wp {mem : j_M} {LV : Nat → List TG} (h : Sx mem G P s sh lv mm LV J Q) : ∃ sm bs, Wp mem 0 sm bs := by
  obtain ⟨R, E, C, B, Wn, T, U, D, e, cap, -, -, h3, -⟩ := h
  exact ⟨_, _, h3.1⟩
theorem Lv_len (l : List TG) (a : Nat) : (l.take a).length ≤ l.length := by
  rw [List.length_take]
  omega
theorem x_LT_push (d : Nat) {q : Nat} (h : Sy mem G P s sh lv mm LV J Q) (hp : Pu G P mm LV) (hP : P ≤ 256) (hs : ∀ i m, s i = some m → m ≤ 500) (hq : q < 3) (hne : LV q ≠ []) :
    ∃ mem' LV', j_ex tb (d + 11) m_LT_pushDown [.ref 4, .int (nI q)] mem (.inl none) mem' ∧ Sy mem' G P s sh lv mm LV' (J + 1) Q ∧ Pu G P mm LV' ∧ Same G P s (rms mm LV) (rms mm LV') ∧ Ox mem mem' ∧ phi mm LV' + 1 ≤ phi mm LV ∧ (LV' q).length + 1 = (LV q).length := by
  obtain ⟨τ0, tl, hLq⟩ : ∃ τ0 tl, LV q = τ0 :: tl := by
    cases hc : LV q with
    | nil => exact absurd hc hne
    | cons x y => exact ⟨x, y, rfl⟩
  have hG := hp.1
  have hg := hp.2.1
  obtain ⟨R, E, C, B, Wn, T, U, D, e, cap, ⟨a1, a2, a3, ⟨Hl, a4, a4'⟩, a5, a6⟩, h2, -⟩ := id h
  have hT := h2.2.2.2.2.2.2
  have hmq : rms mm LV (q + 1) = τ0.2 ++ (lms tl).flatten := by
    unfold rms
    rw [if_neg (by omega)]
    show (lms (LV q)).flatten = _
    rw [hLq]
    rfl
  have hmu : rms mm LV (q + 1 + 1) = (lms (LV (q + 1))).flatten := by
    unfold rms
    rw [if_neg (by omega)]
    rfl
  have hl0ne : τ0.2 ≠ [] := (hp.2.2.2 q (by omega)).2 _ (by rw [hLq]; exact List.mem_cons_self)
  have hn0 : 1 ≤ τ0.2.length := List.length_pos_iff.mpr hl0ne
  have htot := Pu_tot hp
  have hlq : (rms mm LV (q + 1)).length ≤ 256 ∧ (rms mm LV (q + 1 + 1)).length ≤ 256 := by
    have := pgr (a := 1) (n := P) (So_nd (hg.1 (q + 1) (by omega))) (fun x hx => by
      have e1 := hg.2.1 (q + 1) (by omega) x hx
      have e2 := hp.2.2.1 (q + 1) (by omega) x hx
      omega)
    have := pgr (a := 1) (n := P) (So_nd (hg.1 (q + 1 + 1) (by omega))) (fun x hx => by
      have e1 := hg.2.1 (q + 1 + 1) (by omega) x hx
      have e2 := hp.2.2.1 (q + 1 + 1) (by omega) x hx
      omega)
    omega
  have hn0l : τ0.2.length ≤ (rms mm LV (q + 1)).length := by rw [hmq, List.length_append]; omega
  -- the first table's size
  obtain ⟨fm0, hLv0⟩ := Lv_of h2 a5 (show q < 4 by omega)
  have hc0 := (h2.2.2.2.1 q (by omega)).2.2.1
  have k1 := x_Lv_startOf (d + 6) (t := 1) hLv0 hc0 (by rw [lfs_len, hLq]; simp)
  have e1 : sta (lfs (LV q)) 1 = τ0.2.length := by
    rw [sta_stl _ (fun τ hτ => (hT q (by omega) τ hτ).2.1), hLq]
    show ([τ0.2] : List (List Nat)).flatten.length = _
    simp
  rw [e1] at k1
  -- its first and last key
  obtain ⟨f1, s1, k2, sf1, vs1, ve1⟩ := gh_load (d + 5) (r := q + 1) (i := 0) (v := 26) h2 a5 (by omega) (by omega) (by omega)
  rw [rL_s, ra_s] at k2
  generalize hm1 : j_set mem (26 + 1) (vW f1) = m1 at *
  have b1 := Bs_sf h2 sf1
  obtain ⟨f2, s2, k3, sf2, vs2, ve2⟩ := gh_load (d + 5) (r := q + 1) (i := τ0.2.length - 1) (v := 28) b1 vs1 (by omega) (by omega) (by omega)
  rw [rL_s, ra_s, show nI (τ0.2.length - 1) = nI τ0.2.length - 1 from (pk_sub (b := 1) (by omega)).symm] at k3
  have ve1' : Ve (j_set m1 (28 + 1) (vW f2)) 26 27 f1 := ⟨by rw [st_ne _ _ (by omega)]; exact ve1.1, by rw [st_ne _ _ (by omega)]; exact ve1.2⟩
  generalize hm2 : j_set m1 (28 + 1) (vW f2) = m2 at *
  have b2 := Bs_sf b1 sf2
  -- the tables below that it overlaps
  obtain ⟨a, ka, m3, k4, sf3, vs3, w3, h28, h29, ha, r1, r2, r3, r4⟩ := gh_reach (d + 1) hG hg b2 vs2 (show q + 1 < 4 by omega) ve1'
  have b3 := Bs_sf b2 sf3
  have ve3 : Ve m3 28 29 f2 := ⟨h28.trans ve2.1, h29.trans ve2.2⟩
  obtain ⟨b, kb, m4, k5, sf4, vs4, w4, t1, t2, t3, t4⟩ := gh_beyond (d + 1) hG hg b3 vs3 (show q + 1 < 4 by omega) ve3
  have b4 := Bs_sf b3 sf4
  have hl0 : ∀ x ∈ τ0.2, v_key f1 ≤ gK G x ∧ gK G x ≤ v_key f2 := fun x hx => by
    have hso : So (gK G) τ0.2 := by
      have := hg.1 (q + 1) (by omega)
      rw [hmq] at this
      exact (List.pairwise_append.mp this).1
    have hlt : ∀ t ∈ τ0.2, t < 1023 := fun t ht => by
      have := (hg.2.1 (q + 1) (by omega) t (by rw [hmq]; exact List.mem_append_left _ ht)).2
      omega
    have he := So_ends hso hlt hx
    have g1 : v_key f1 = gK G (τ0.2.getD 0 0) := by
      rw [sw_key s1, hmq]
      rw [List.getD_eq_getElem?_getD, List.getElem?_append_left (by omega), ← List.getD_eq_getElem?_getD]
      rfl
    have g2 : v_key f2 = gK G (τ0.2.getD (τ0.2.length - 1) 0) := by
      rw [sw_key s2, hmq]
      rw [List.getD_eq_getElem?_getD, List.getElem?_append_left (by omega), ← List.getD_eq_getElem?_getD]
      rfl
    rw [g1, g2]
    exact he
  have hlh : v_key f1 ≤ v_key f2 := by
    cases hc : τ0.2 with
    | nil => exact absurd hc hl0ne
    | cons x y =>
      have := hl0 x (by rw [hc]; exact List.mem_cons_self)
      omega
  have hts := hp.2.2.2 (q + 1) (by omega)
  have ho : Ovl (gK G) (lms (LV (q + 1))) (v_key f1) (v_key f2) a b := ovl hts.2 (fun t ht => by
    have := (hg.2.1 (q + 1 + 1) (by omega) t (by rw [hmu]; exact ht)).2
    omega) hlh r1 r2 r3 r4 t1 t2 t3 t4
  have hab := ho.1
  have hbl : b ≤ (LV (q + 1)).length := by
    have := ho.2.1
    rw [lms_len] at this
    exact this
  have sf24 : Sf mem m4 := Sf_trans sf1 (Sf_trans sf2 (Sf_trans sf3 sf4))
  -- the walk
  have hq4 : q = 0 ∨ q = 1 ∨ q = 2 := by omega
  obtain ⟨hn, un, aa, sp, fv, fn, W, wq⟩ := a6
  have w12 : ∀ c, 47 ≤ c → m2.2.2 c = mem.2.2 c := fun c hc => by rw [← hm2, st_ne _ _ (by omega), ← hm1, st_ne _ _ (by omega)]
  have wq4 : Wq m4 hn un aa sp fv fn W := Wq_fr wq (fun c c1 c2 => (w4 c (by omega)).trans ((w3 c (by omega)).trans (w12 c (by omega)))) (sf24.2.2 19 (by unfold scell; omega))
  obtain ⟨m5, a', s', k6, wf5, h05, wq5⟩ := x_Wk_clear (d + 8) wq4
  have wq5' : Wq m5 hn un a' s' fv fn (gW G (rms mm LV)) := Wq_cl wq5 h05
  have b5 := Bs_sf b4 (Sf_wf wf5)
  have vs5 : Vs m5 := Vs_wq vs4 wf5 wq5
  obtain ⟨m6, a6', s6', k7, wf6, wq6, c61, c62, c63, c64⟩ := gh_cover (d + 4) (x := 0) (y := τ0.2.length) wq5' (Bs_Rd b5) (show q + 1 < 5 by omega) hn0l (by omega) (h05 (q + 1) (by omega))
  have b6 := Bs_sf b5 (Sf_wf wf6)
  have vs6 : Vs m6 := Vs_wq vs5 wf6 wq6
  obtain ⟨fm6, hLv6⟩ := Lv_of b6 vs6 (show q + 1 < 4 by omega)
  have hc1 := (h2.2.2.2.1 (q + 1) (by omega)).2.2.1
  have st6 := sta_stl _ (fun τ hτ => (hT (q + 1) (by omega) τ hτ).2.1)
  have k8 := x_Lv_startOf (d + 6) (t := a) hLv6 hc1 (by rw [lfs_len]; exact ha)
  have k9 := x_Lv_startOf (d + 6) (t := b) hLv6 hc1 (by rw [lfs_len]; exact hbl)
  rw [st6] at k8 k9
  have stb : stl (lms (LV (q + 1))) b ≤ (rms mm LV (q + 1 + 1)).length := by
    rw [hmu, ← stl_all]
    rcases Nat.lt_or_ge b (lms (LV (q + 1))).length with c | c
    · exact Nat.le_of_lt (stl_mono hts.2 c (Nat.le_refl _))
    · rw [show b = (lms (LV (q + 1))).length by have := ho.2.1; omega]
      exact Nat.le_refl _
  have sta' : stl (lms (LV (q + 1))) a ≤ stl (lms (LV (q + 1))) b := by
    rcases Nat.lt_or_ge a b with c | c
    · exact Nat.le_of_lt (stl_mono hts.2 c ho.2.1)
    · rw [show b = a by omega]
      exact Nat.le_refl _
  obtain ⟨m7, a7, s7, k10, wf7, wq7, c71, c72, c73, c74⟩ := gh_cover (d + 4) (x := stl (lms (LV (q + 1))) a) (y := stl (lms (LV (q + 1))) b) wq6 (Bs_Rd b6) (show q + 1 + 1 < 5 by omega) stb (by omega) (by
    have h1 := c61 (q + 1 + 1) (by omega)
    have h2 := h05 (q + 1 + 1) (by omega)
    omega)
  have vs7 : Vs m7 := Vs_wq vs6 wf7 wq7
  have sf47 : Sf m4 m7 := Sf_trans (Sf_wf wf5) (Sf_trans (Sf_wf wf6) (Sf_wf wf7))
  have sf7 := Sf_trans sf24 sf47
  have sy7 : Sy m7 G P s sh lv mm LV J Q := Sy_sf h sf7 vs7 ⟨_, _, _, _, _, _, _, wq7⟩
  -- what the walk gives
  obtain ⟨ml, ml1, ml2⟩ := srt (gK G) (τ0.2 ++ (((lms (LV (q + 1))).take b).drop a).flatten) (fun x hx => by
    rcases List.mem_append.mp hx with w | w
    · have := (hg.2.1 (q + 1) (by omega) x (by rw [hmq]; exact List.mem_append_left _ w)).2
      omega
    · have := (hg.2.1 (q + 1 + 1) (by omega) x (by rw [hmu]; exact (mem_cut hab x).mpr (Or.inr (Or.inl w)))).2
      omega)
  have hml : ∀ t, t ∈ ml ↔ t ∈ τ0.2 ∨ t ∈ (((lms (LV (q + 1))).take b).drop a).flatten := fun t => by rw [ml2, List.mem_append]
  have hbd7 : ∀ r, r < 5 → a7 r ≤ s7 r ∧ s7 r ≤ (rms mm LV r).length := fun r hr => by
    by_cases c : r = q + 1 + 1
    · subst c
      exact ⟨c73, c74⟩
    · have g1 := c71 r c
      by_cases c' : r = q + 1
      · subst c'
        rw [g1.1, g1.2]
        exact ⟨c63, c64⟩
      · have g2 := c61 r c'
        have g3 := h05 r hr
        omega
  have hrl : Rl (gK G) (rms mm LV) a7 s7 ml := by
    refine ⟨ml1, fun t => ?_⟩
    rw [hml]
    constructor
    · rintro (w | w)
      · obtain ⟨i, i1, i2, i3⟩ := (mem_pre (r := (lms tl).flatten) t).mp w
        have g1 := c71 (q + 1) (by omega)
        have g2 := (c62 i).mpr ⟨i1, i2⟩
        exact ⟨q + 1, by omega, i, by omega, by omega, by rw [hmq]; exact i3⟩
      · obtain ⟨i, i1, i2, i3⟩ := (mem_mid hab t).mp w
        have g2 := (c72 i).mpr ⟨i1, i2⟩
        exact ⟨q + 1 + 1, by omega, i, g2.1, g2.2, by rw [hmu]; exact i3⟩
    · rintro ⟨r, hr, i, i1, i2, i3⟩
      by_cases c : r = q + 1 + 1
      · subst c
        have g2 := (c72 i).mp ⟨i1, i2⟩
        exact Or.inr ((mem_mid hab t).mpr ⟨i, g2.1, g2.2, by rw [hmu] at i3; exact i3⟩)
      · have g1 := c71 r c
        by_cases c' : r = q + 1
        · subst c'
          have g2 := (c62 i).mp ⟨by omega, by omega⟩
          exact Or.inl ((mem_pre (r := (lms tl).flatten) t).mpr ⟨i, g2.1, g2.2, by rw [hmq] at i3; exact i3⟩)
        · have g2 := c61 r c'
          have g3 := h05 r hr
          omega
  have hrr : ∀ x ∈ τ0.2, ∀ y ∈ (lms tl).flatten, gK G x < gK G y := fun x hx y hy => by
    have hpw := (hp.2.2.2 q (by omega)).1
    rw [hLq] at hpw
    obtain ⟨z, z1, z2⟩ := List.mem_flatten.mp hy
    exact (List.pairwise_cons.mp hpw).1 z z1 x hx y z2
  have hcov : Cov (gK G) (rms mm LV) (q + 1) ml := dn_cov hg.2.2 (by omega) hmq hrr hmu hts.1 ho hl0 hml
  obtain ⟨mo, fs, kp, k11, sx8, ox8, z1, z2, z3, z4, z5, z6⟩ := sy_need d (l := q + 1) sy7 hp hP hs (by omega) hcov wq7 hbd7 hrl
  have e4 : ∀ k, k < 4 → va_up LV 4 fs k = LV k := fun k hk => va_up_ne _ _ (by omega)
  obtain ⟨m9, k12, sx9, ox9⟩ := sx_rem (d + 5) (k := q) (a := 0) (b := 1) sx8 (by omega) (by omega) (by rw [e4 q (by omega), hLq]; simp)
  generalize hLa : va_up (va_up LV 4 fs) q ((va_up LV 4 fs q).take 0 ++ (va_up LV 4 fs q).drop 1) = La at *
  have la1 : La q = tl := by rw [← hLa, va_up_self, e4 q (by omega), hLq]; simp
  have la2 : La (q + 1) = LV (q + 1) := by rw [← hLa, va_up_ne _ _ (by omega), e4 _ (by omega)]
  have la3 : La 4 = fs := by rw [← hLa, va_up_ne _ _ (by omega), va_up_self]
  have la4 : ∀ k, k < 4 → k ≠ q → La k = LV k := fun k h1 h2 => by rw [← hLa, va_up_ne _ _ h2, e4 _ h1]
  obtain ⟨m10, k13, sx10, ox10⟩ := sx_rem (d + 5) (k := q + 1) (a := a) (b := b) sx9 (by omega) hab (by rw [la2]; exact hbl)
  generalize hLb : va_up La (q + 1) ((La (q + 1)).take a ++ (La (q + 1)).drop b) = Lb at *
  have lb1 : Lb (q + 1) = (LV (q + 1)).take a ++ (LV (q + 1)).drop b := by rw [← hLb, va_up_self, la2]
  have lb2 : Lb 4 = fs := by rw [← hLb, va_up_ne _ _ (by omega), la3]
  have lb3 : ∀ k, k ≠ q + 1 → Lb k = La k := fun k hk => by rw [← hLb, va_up_ne _ _ hk]
  have hnt : (LV (q + 1)).length ≤ 256 := by
    have h1 := fl_len _ hts.2
    rw [lms_len, ← hmu] at h1
    omega
  have hkl : kp.length ≤ 512 := by
    have := pg kp (τ0.2 ++ (((lms (LV (q + 1))).take b).drop a).flatten) (So_nd z2) (fun x hx => (ml2 x).mp (z1.1 x hx))
    rw [List.length_append] at this
    have h3 : (((lms (LV (q + 1))).take b).drop a).flatten.length ≤ (lms (LV (q + 1))).flatten.length := by
      conv => rhs; rw [cut_eq (ts := lms (LV (q + 1))) hab]
      rw [List.flatten_append, List.flatten_append, List.length_append, List.length_append]
      omega
    rw [← hmu] at h3
    omega
  have hta : ((LV (q + 1)).take a).length = a := by rw [List.length_take]; omega
  obtain ⟨m11, k14, sy11, ox11⟩ := sx_ins (d + 4) (k := q + 1) (a := a) sx10 (by omega) (by
      rw [lb1, lb2, List.length_append, List.length_take, List.length_drop]
      omega) (by
      rw [lb1, lb2, z3, lms_app, List.flatten_append, List.length_append]
      have h1 : (lms ((LV (q + 1)).take a)).flatten.length ≤ (lms (LV (q + 1))).flatten.length := by
        conv => rhs; rw [← List.take_append_drop a (LV (q + 1)), lms_app, List.flatten_append, List.length_append]
        omega
      have h2 : (lms ((LV (q + 1)).drop b)).flatten.length ≤ (lms (LV (q + 1))).flatten.length := by
        conv => rhs; rw [← List.take_append_drop b (LV (q + 1)), lms_app, List.flatten_append, List.length_append]
        omega
      rw [← hmu] at h1 h2
      omega) (by rw [lb1, List.length_append, hta]; omega)
  have eins : (Lb (q + 1)).take a ++ Lb 4 ++ (Lb (q + 1)).drop a = (LV (q + 1)).take a ++ fs ++ (LV (q + 1)).drop b := by
    rw [lb1, lb2]
    have h1 : ((LV (q + 1)).take a ++ (LV (q + 1)).drop b).take a = (LV (q + 1)).take a := by
      rw [List.take_append_of_le_length (by omega), List.take_take, Nat.min_self]
    have h2 : ((LV (q + 1)).take a ++ (LV (q + 1)).drop b).drop a = (LV (q + 1)).drop b := by
      rw [List.drop_append_of_le_length (by omega), List.drop_eq_nil_of_le (by omega), List.nil_append]
    rw [h1, h2]
  rw [eins] at sy11
  generalize hLc : va_up (va_up Lb (q + 1) ((LV (q + 1)).take a ++ fs ++ (LV (q + 1)).drop b)) 4 [] = Lc at *
  have lc1 : Lc (q + 1) = (LV (q + 1)).take a ++ fs ++ (LV (q + 1)).drop b := by rw [← hLc, va_up_ne _ _ (by omega), va_up_self]
  have lc2 : Lc q = tl := by rw [← hLc, va_up_ne _ _ (by omega), va_up_ne _ _ (by omega), lb3 _ (by omega), la1]
  have lc3 : ∀ k, k < 4 → k ≠ q → k ≠ q + 1 → Lc k = LV k := fun k h1 h2 h3 => by rw [← hLc, va_up_ne _ _ (by omega), va_up_ne _ _ h3, lb3 _ h3, la4 _ h1 h2]
  have hfin := dn_fin (mm' := mm) (LV' := Lc) (s := s) hp (show q + 1 < 4 by omega) hmq hrr ho hl0 hml z1 z2 z3 z4 z5 (by
      show (if q + 1 = 0 then mm else (lms (Lc (q + 1 - 1))).flatten) = _
      rw [if_neg (by omega), show q + 1 - 1 = q by omega, lc2]) lc1 (fun r h5 h1 h2 => by
      unfold rms
      by_cases c : r = 0
      · rw [if_pos c, if_pos c]
      · rw [if_neg c, if_neg c, lc3 (r - 1) (by omega) (by omega) (by omega)]) (fun k h1 h2 => by
      by_cases c : k = q
      · subst c
        rw [lc2]
        have := hp.2.2.2 k h1
        rw [hLq] at this
        exact ⟨(List.pairwise_cons.mp this.1).2, fun z hz => this.2 z (List.mem_cons_of_mem _ hz)⟩
      · rw [lc3 k h1 c h2]
        exact hp.2.2.2 k h1)
  have hphi : phi mm Lc + 1 ≤ phi mm LV := by
    have h1 := dn_len (u := q + 1) (LV' := Lc) hab hml z1.1 z2 z3 lc1
    have h2 : (lms (LV q)).flatten.length = τ0.2.length + (lms (Lc q)).flatten.length := by
      rw [hLq, lc2]
      show (τ0.2 ++ (lms tl).flatten).length = _
      rw [List.length_append]
    unfold phi
    rcases hq4 with rfl | rfl | rfl
    · have g2 := lc3 2 (by omega) (by omega) (by omega)
      rw [g2]
      simp only [Nat.zero_add] at h1 h2
      omega
    · have g0 := lc3 0 (by omega) (by omega) (by omega)
      rw [g0]
      simp only [Nat.reduceAdd] at h1 h2
      omega
    · have g0 := lc3 0 (by omega) (by omega) (by omega)
      have g1 := lc3 1 (by omega) (by omega) (by omega)
      rw [g0, g1]
      omega
  refine ⟨m11, Lc, ?_, sy11, hfin.1, hfin.2, Ox_trans (Ox_sf sf7) (Ox_trans ox8 (Ox_trans ox9 (Ox_trans ox10 ox11))), hphi, by rw [lc2, hLq, List.length_cons]⟩
  have l0 : mem.2.2 4 = _ := a1
  have l1 : m1.2.2 4 = _ := (sf1.2.2 4 (by unfold scell; omega)).trans a1
  have l2 : m2.2.2 4 = _ := ((Sf_trans sf1 sf2).2.2 4 (by unfold scell; omega)).trans a1
  have l3 : m3.2.2 4 = _ := ((Sf_trans sf1 (Sf_trans sf2 sf3)).2.2 4 (by unfold scell; omega)).trans a1
  have l4 : m4.2.2 4 = _ := (sf24.2.2 4 (by unfold scell; omega)).trans a1
  have l5 : m5.2.2 4 = _ := ((Sf_trans sf24 (Sf_wf wf5)).2.2 4 (by unfold scell; omega)).trans a1
  have l6 : m6.2.2 4 = _ := ((Sf_trans sf24 (Sf_trans (Sf_wf wf5) (Sf_wf wf6))).2.2 4 (by unfold scell; omega)).trans a1
  have l7 : m7.2.2 4 = _ := (sf7.2.2 4 (by unfold scell; omega)).trans a1
  have o0 := hLv0.1
  have o1 := (b1.2.2.2.1 q (by omega)).1.1
  have o2 := (b2.2.2.2.1 (q + 1) (by omega)).1.1
  have o3 := (b3.2.2.2.1 (q + 1) (by omega)).1.1
  have o6 := hLv6.1
  have w48 := wq4.1
  have w5 := wq5.1
  have w6 := wq6.1
  obtain ⟨f8, o8⟩ := Sx_lv sx8 (show q < 4 by omega)
  obtain ⟨f9, o9⟩ := Sx_lv sx9 (show q + 1 < 4 by omega)
  obtain ⟨f10, o10⟩ := Sx_lv sx10 (show q + 1 < 4 by omega)
  have l10 : m10.2.2 4 = some (.inr (0, [.int sh, .int lv, .ref 5, .ref 7, .ref 9, .ref 14, .ref 18, .ref 19, .ref 48, .ref 66, .ref 20, .ref 22, .ref 24, .ref 26, .ref 28, .ref 30])) := Sx_lt sx10
  obtain ⟨sm10, bs10, w10⟩ := Sx_wp sx10
  have kt := x_Wr_tables (d + 9) w10
  have w66 := w10.1
  rw [← nI_1 q] at k7 k11
  rw [show q + 1 + 1 = q + 2 from rfl, ← nI_add q 2] at k10
  refine ⟨e_LT_pushDown, rfl, Nat.le_of_ble_eq_true rfl, ?_⟩
  repeat (first | refine ev_go rfl (by rfl) ?_ | refine ev_gf rfl (by assumption) (by rfl) (by rfl) ?_)
  refine ev_alqN (i := q) rfl (by assumption) (by rfl) (by omega) (by omega) ?_
  rw [a4' q (by omega)]
  repeat (first | refine ev_go rfl (by rfl) ?_ | refine ev_gf rfl (by assumption) (by rfl) (by rfl) ?_)
  refine ev_vi (nI_1 q) ?_
  refine ev_alqN (i := q + 1) rfl (by assumption) (by rfl) (by omega) (by omega) ?_
  rw [a4' (q + 1) (by omega)]
  repeat (first | refine ev_go rfl (by rfl) ?_ | refine ev_gf rfl (by assumption) (by rfl) (by rfl) ?_)
  refine ev_cv (as := [.int (nI 1)]) rfl rfl rfl (by assumption) (by rfl) (by rfl) (k1) ?_
  repeat (first | refine ev_go rfl (by rfl) ?_ | refine ev_gf rfl (by assumption) (by rfl) (by rfl) ?_)
  refine ev_cv (as := [.int (nI 0), .ref 26]) rfl rfl rfl (by assumption) (by rfl) (by rfl) (k2) ?_
  repeat (first | refine ev_go rfl (by rfl) ?_ | refine ev_gf rfl (by assumption) (by rfl) (by rfl) ?_)
  refine ev_cv (as := [.int (nI τ0.2.length - 1), .ref 28]) rfl rfl rfl (by assumption) (by rfl) (by rfl) (k3) ?_
  repeat (first | refine ev_go rfl (by rfl) ?_ | refine ev_gf rfl (by assumption) (by rfl) (by rfl) ?_)
  refine ev_cv (as := [.ref 26]) rfl rfl rfl (by assumption) (by rfl) (by rfl) (k4) ?_
  repeat (first | refine ev_go rfl (by rfl) ?_ | refine ev_gf rfl (by assumption) (by rfl) (by rfl) ?_)
  refine ev_cv (as := [.ref 28]) rfl rfl rfl (by assumption) (by rfl) (by rfl) (k5) ?_
  repeat (first | refine ev_go rfl (by rfl) ?_ | refine ev_gf rfl (by assumption) (by rfl) (by rfl) ?_)
  refine ev_cv (as := []) rfl rfl rfl (by assumption) (by rfl) (by rfl) (k6) ?_
  repeat (first | refine ev_go rfl (by rfl) ?_ | refine ev_gf rfl (by assumption) (by rfl) (by rfl) ?_)
  refine ev_cv (as := [.int (nI q + 1), .int (nI 0), .int (nI τ0.2.length)]) rfl rfl rfl (by assumption) (by rfl) (by rfl) (k7) ?_
  repeat (first | refine ev_go rfl (by rfl) ?_ | refine ev_gf rfl (by assumption) (by rfl) (by rfl) ?_)
  refine ev_cv (as := [.int (nI a)]) rfl rfl rfl (by assumption) (by rfl) (by rfl) (k8) ?_
  repeat (first | refine ev_go rfl (by rfl) ?_ | refine ev_gf rfl (by assumption) (by rfl) (by rfl) ?_)
  refine ev_cv (as := [.int (nI b)]) rfl rfl rfl (by assumption) (by rfl) (by rfl) (k9) ?_
  refine ev_cv (as := [.int (nI q + nI 2), .int (nI (stl (lms (LV (q + 1))) a)), .int (nI (stl (lms (LV (q + 1))) b))]) rfl rfl rfl (by assumption) (by rfl) (by rfl) (k10) ?_
  repeat (first | refine ev_go rfl (by rfl) ?_ | refine ev_gf rfl (by assumption) (by rfl) (by rfl) ?_)
  refine ev_cv (as := [.int (nI q + 1)]) rfl rfl rfl (by assumption) (by rfl) (by rfl) (k11) ?_
  repeat (first | refine ev_go rfl (by rfl) ?_ | refine ev_gf rfl (by assumption) (by rfl) (by rfl) ?_)
  refine ev_cv (as := [.int (nI 0), .int (nI 1)]) rfl rfl rfl (by assumption) (by rfl) (by rfl) (k12) ?_
  repeat (first | refine ev_go rfl (by rfl) ?_ | refine ev_gf rfl (by assumption) (by rfl) (by rfl) ?_)
  refine ev_cv (as := [.int (nI a), .int (nI b)]) rfl rfl rfl (by assumption) (by rfl) (by rfl) (k13) ?_
  repeat (first | refine ev_go rfl (by rfl) ?_ | refine ev_gf rfl (by assumption) (by rfl) (by rfl) ?_)
  refine ev_cv (as := []) rfl rfl rfl (by assumption) (by rfl) (by rfl) (kt) ?_
  refine ev_cv (as := [.int (nI a), .ref 67]) rfl rfl rfl (by assumption) (by rfl) (by rfl) (k14) ?_
  exact j_ev.ret rfl
end PUSH
