/-! LEVELTABLES: writeOut (own text) -/
section OUT
variable {mem mem' : j_M} {G G' : Nat → Nat → Int64} {P : Nat} {s : Nat → Option Nat} {sh lv : Int32} {mm mm' : List Nat} {R R' : Nat → Int64} {E C : Nat → Nat} {LV : Nat → List TG} {B : Nat → Option Nat} {Wn T U : Nat → Int32} {D : Nat → Nat → Int64} {J Q : Nat}
/-- memory alone changes -/
theorem Bs_mm (hb : Bs mem G mm R E C LV B Wn T U D) (h1 : mem'.1 = mem.1) (hf : ∀ c, c ≠ 14 → c ≠ 16 → c ≠ 17 → rcell c → mem'.2.2 c = mem.2.2 c) (hM : Mw mem' mm'.length R') (hn : mm'.length ≤ 500) (hR : ∀ i, i < mm'.length → sw (row R' i) (G' (mm'.getD i 0))) (hG : ∀ k, k < 4 → ∀ τ ∈ LV k, ∀ t ∈ τ.2, G' t = G t) : Bs mem' G' mm' R' E C LV B Wn T U D := by
  obtain ⟨b1, b2, b3, b4, b5, b6, b7⟩ := hb
  have q : ∀ c, c ≠ 14 → c ≠ 17 → rcell c → mem'.2.2 c = mem.2.2 c := fun c c1 c2 c3 => hf c c1 (by unfold rcell at c3; omega) c2 c3
  refine ⟨hM, hn, hR, fun k hk => ?_, ⟨by rw [q _ (by omega) (by omega) (by unfold rcell; omega)]; exact b5.1, by rw [q _ (by omega) (by omega) (by unfold rcell; omega)]; exact b5.2.1, by rw [q _ (by omega) (by omega) (by unfold rcell; omega)]; exact b5.2.2.1, by rw [q _ (by omega) (by omega) (by unfold rcell; omega)]; exact b5.2.2.2.1, by rw [q _ (by omega) (by omega) (by unfold rcell; omega)]; exact b5.2.2.2.2⟩, Rw_fr b6 (by omega) (fun c c1 _ => q c (by omega) (by omega) (by unfold rcell; omega)), fun k hk τ hτ => Tok_G (b7 k hk τ hτ) (hG k hk τ hτ)⟩
  obtain ⟨l1, l2, l3, l4⟩ := b4 k hk
  have hk4 : k = 0 ∨ k = 1 ∨ k = 2 ∨ k = 3 := by omega
  exact ⟨Lw_fr l1 l2 (q _ (by omega) (by omega) (by unfold rcell; omega)) (q _ (by omega) (by omega) (by unfold rcell; omega)) (q _ (by omega) (by omega) (by unfold rcell; omega)) (fun c c1 _ => q c (by omega) (by omega) (by unfold rcell; omega)), Lr_le l2 (by omega), l3, l4⟩
/-- memory is emptied -/
theorem sy_clear (d : Nat) (h : Sy mem G P s sh lv mm LV J Q) : ∃ mem', j_ex tb (d + 1) m_Me_clear [.ref 14] mem (.inl none) mem' ∧ Sy mem' G P s sh lv [] LV J Q ∧ Ox mem mem' := by
  obtain ⟨R, E, C, B, Wn, T, U, D, e, cap, ⟨a1, a2, ⟨Hr, r1, r2⟩, ⟨Hl, l1, l2⟩, a5, a6⟩, h2, ⟨⟨p1, p2, bf, p3, p4⟩, ⟨xs, md, Ef, q1, q2, q3, q4⟩, h5⟩, h6, h7, h12, h13, h14⟩ := h
  obtain ⟨fm, hm⟩ := a5 15 (by unfold vcell; omega)
  have k := x_Me_clear d (mem := mem) (n := mm.length) (R := R) (fm := fm) ⟨h2.1.1, hm, h2.1.2.2⟩
  have e2 : e ≠ 14 := by
    by_cases c : cap = 0
    · have := h5.1 c
      omega
    · have := (h5.2 c).1
      omega
  generalize hm' : j_set mem 14 (.inr (4, [.ref 15, .int (nI 0), .ref 17])) = m' at k
  have f : ∀ c, c ≠ 14 → m'.2.2 c = mem.2.2 c := fun c hc => by rw [← hm']; exact st_ne _ _ hc
  have g1 : m'.1 = mem.1 := by rw [← hm']; rfl
  have g2 : m'.2.1 = mem.2.1 := by rw [← hm']; rfl
  have hM : Mw m' ([] : List Nat).length R := ⟨by rw [← hm']; exact st_same _ _ _, trivial, (f 17 (by omega)).trans h2.1.2.2⟩
  refine ⟨m', k, ⟨R, E, C, B, Wn, T, U, D, e, cap, ⟨(f 4 (by omega)).trans a1, ⟨(f 7 (by omega)).trans a2.1, (f 8 (by omega)).trans a2.2⟩, ⟨Hr, (f 19 (by omega)).trans r1, r2⟩, ⟨Hl, (f 18 (by omega)).trans l1, l2⟩, fun v hv => ?_, Wz_fr a6 (fun c c1 c2 => f c (by omega)) (f 19 (by omega))⟩, Bs_mm h2 g1 (fun c c1 _ _ _ => f c c1) hM (by simp) (fun i hi => by cases hi) (fun _ _ _ _ _ _ => rfl), ⟨⟨(f 66 (by omega)).trans p1, p2, bf, (f 68 (by omega)).trans p3, p4⟩, ⟨xs, md, Ef, (f 67 (by omega)).trans q1, (f e e2).trans q2, q3, q4⟩, ⟨h5.1, by rw [g1]; exact h5.2⟩⟩, h6, h7, by omega, h13, ?_⟩, fun c hc => f c (by omega)⟩
  · obtain ⟨ff, h3⟩ := a5 v hv
    unfold vcell at hv
    exact ⟨ff, (f v (by omega)).trans h3.1, (f (v + 1) (by omega)).trans h3.2⟩
  · unfold Rm at h14 ⊢
    rw [g1, g2]
    exact h14
theorem x_LT_wout (d : Nat) (h : Sy mem G P s sh lv mm LV J Q) (hp : Pu G P mm LV) (hP : P ≤ 256) (hs : ∀ i m, s i = some m → m ≤ 500) (hne : mm ≠ []) :
    ∃ mem' LV', j_ex tb (d + 11) m_LT_writeOut [.ref 4] mem (.inl none) mem' ∧ Sy mem' G P s sh lv [] LV' (J + 1) Q ∧ Pu G P [] LV' ∧ Same G P s (rms mm LV) (rms [] LV') ∧ Ox mem mem' ∧ phi [] LV' ≤ phi mm LV := by
  have hG := hp.1
  have hg := hp.2.1
  obtain ⟨R, E, C, B, Wn, T, U, D, e, cap, ⟨a1, a2, a3, ⟨Hl, a4, a4'⟩, a5, a6⟩, h2, -⟩ := id h
  have hT := h2.2.2.2.2.2.2
  have hmq : rms mm LV 0 = mm ++ [] := by rw [List.append_nil]; rfl
  have hmq' : rms mm LV 0 = mm := rfl
  have hmu : rms mm LV (0 + 1) = (lms (LV 0)).flatten := rfl
  have hn0 : 1 ≤ mm.length := List.length_pos_iff.mpr hne
  have htot := Pu_tot hp
  obtain ⟨fmm, hmm⟩ := a5 15 (by unfold vcell; omega)
  -- the first and the last key
  obtain ⟨f1, s1, k2, sf1, vs1, ve1⟩ := gh_load (d + 5) (r := 0) (i := 0) (v := 26) h2 a5 (by omega) (by rw [hmq']; omega) (by omega)
  change j_ex tb (d + 5 + 5) m_Me_load [.ref 14, .int (nI 0), .ref 26] mem (.inl none) (j_set mem (26 + 1) (vW f1)) at k2
  generalize hm1 : j_set mem (26 + 1) (vW f1) = m1 at *
  have b1 := Bs_sf h2 sf1
  have mm1 : ∀ {m : j_M}, Bs m G mm R E C LV B Wn T U D → Vs m → j_ex tb (d + 9 + 1) m_Me_count [.ref 14] m (.inl (some (.int (nI mm.length)))) m := fun hb hv => by
    obtain ⟨fm, hf⟩ := hv 15 (by unfold vcell; omega)
    exact x_Me_count (d + 9) ⟨hb.1.1, hf, hb.1.2.2⟩
  have kc1 := mm1 b1 vs1
  obtain ⟨f2, s2, k3, sf2, vs2, ve2⟩ := gh_load (d + 5) (r := 0) (i := mm.length - 1) (v := 28) b1 vs1 (by omega) (by rw [hmq']; omega) (by omega)
  change j_ex tb (d + 5 + 5) m_Me_load [.ref 14, .int (nI (mm.length - 1)), .ref 28] m1 (.inl none) (j_set m1 (28 + 1) (vW f2)) at k3
  rw [show nI (mm.length - 1) = nI mm.length - 1 from (pk_sub (b := 1) (by omega)).symm] at k3
  have ve1' : Ve (j_set m1 (28 + 1) (vW f2)) 26 27 f1 := ⟨by rw [st_ne _ _ (by omega)]; exact ve1.1, by rw [st_ne _ _ (by omega)]; exact ve1.2⟩
  generalize hm2 : j_set m1 (28 + 1) (vW f2) = m2 at *
  have b2 := Bs_sf b1 sf2
  -- the tables below that it overlaps
  obtain ⟨a, ka, m3, k4, sf3, vs3, w3, h28, h29, ha, r1, r2, r3, r4⟩ := gh_reach (d + 1) hG hg b2 vs2 (show 0 < 4 by omega) ve1'
  have b3 := Bs_sf b2 sf3
  have ve3 : Ve m3 28 29 f2 := ⟨h28.trans ve2.1, h29.trans ve2.2⟩
  obtain ⟨b, kb, m4, k5, sf4, vs4, w4, t1, t2, t3, t4⟩ := gh_beyond (d + 1) hG hg b3 vs3 (show 0 < 4 by omega) ve3
  have b4 := Bs_sf b3 sf4
  have hl0 : ∀ x ∈ mm, v_key f1 ≤ gK G x ∧ gK G x ≤ v_key f2 := fun x hx => by
    have hlt : ∀ t ∈ mm, t < 1023 := fun t ht => by
      have := (hg.2.1 0 (by omega) t ht).2
      omega
    have he := So_ends (hg.1 0 (by omega)) hlt hx
    have g1 : v_key f1 = gK G (mm.getD 0 0) := sw_key s1
    have g2 : v_key f2 = gK G (mm.getD (mm.length - 1) 0) := sw_key s2
    rw [g1, g2]
    exact he
  have hlh : v_key f1 ≤ v_key f2 := by
    cases hc : mm with
    | nil => exact absurd hc hne
    | cons x y =>
      have := hl0 x (by rw [hc]; exact List.mem_cons_self)
      omega
  have hts := hp.2.2.2 0 (by omega)
  have ho : Ovl (gK G) (lms (LV 0)) (v_key f1) (v_key f2) a b := ovl hts.2 (fun t ht => by
    have := (hg.2.1 1 (by omega) t ht).2
    omega) hlh r1 r2 r3 r4 t1 t2 t3 t4
  have hab := ho.1
  have hbl : b ≤ (LV 0).length := by
    have := ho.2.1
    rw [lms_len] at this
    exact this
  have sf24 : Sf mem m4 := Sf_trans sf1 (Sf_trans sf2 (Sf_trans sf3 sf4))
  -- the walk
  obtain ⟨hn, un, aa, sp, fv, fn, W, wq⟩ := a6
  have w12 : ∀ c, 47 ≤ c → m2.2.2 c = mem.2.2 c := fun c hc => by rw [← hm2, st_ne _ _ (by omega), ← hm1, st_ne _ _ (by omega)]
  have wq4 : Wq m4 hn un aa sp fv fn W := Wq_fr wq (fun c c1 c2 => (w4 c (by omega)).trans ((w3 c (by omega)).trans (w12 c (by omega)))) (sf24.2.2 19 (by unfold scell; omega))
  obtain ⟨m5, a', s', k6, wf5, h05, wq5⟩ := x_Wk_clear (d + 8) wq4
  have wq5' : Wq m5 hn un a' s' fv fn (gW G (rms mm LV)) := Wq_cl wq5 h05
  have b5 := Bs_sf b4 (Sf_wf wf5)
  have vs5 : Vs m5 := Vs_wq vs4 wf5 wq5
  have kc5 := mm1 b5 vs5
  obtain ⟨m6, a6', s6', k7, wf6, wq6, c61, c62, c63, c64⟩ := gh_cover (d + 4) (x := 0) (y := mm.length) wq5' (Bs_Rd b5) (show 0 < 5 by omega) (Nat.le_refl _) (by omega) (h05 0 (by omega))
  have b6 := Bs_sf b5 (Sf_wf wf6)
  have vs6 : Vs m6 := Vs_wq vs5 wf6 wq6
  obtain ⟨fm6, hLv6⟩ := Lv_of b6 vs6 (show 0 < 4 by omega)
  have hc1 := (h2.2.2.2.1 0 (by omega)).2.2.1
  have st6 := sta_stl _ (fun τ hτ => (hT 0 (by omega) τ hτ).2.1)
  have k8 := x_Lv_startOf (d + 6) (t := a) hLv6 hc1 (by rw [lfs_len]; exact ha)
  have k9 := x_Lv_startOf (d + 6) (t := b) hLv6 hc1 (by rw [lfs_len]; exact hbl)
  rw [st6] at k8 k9
  have stb : stl (lms (LV 0)) b ≤ (lms (LV 0)).flatten.length := by
    rw [← stl_all]
    rcases Nat.lt_or_ge b (lms (LV 0)).length with c | c
    · exact Nat.le_of_lt (stl_mono hts.2 c (Nat.le_refl _))
    · rw [show b = (lms (LV 0)).length by have := ho.2.1; omega]
      exact Nat.le_refl _
  have sta' : stl (lms (LV 0)) a ≤ stl (lms (LV 0)) b := by
    rcases Nat.lt_or_ge a b with c | c
    · exact Nat.le_of_lt (stl_mono hts.2 c ho.2.1)
    · rw [show b = a by omega]
      exact Nat.le_refl _
  obtain ⟨m7, a7, s7, k10, wf7, wq7, c71, c72, c73, c74⟩ := gh_cover (d + 4) (x := stl (lms (LV 0)) a) (y := stl (lms (LV 0)) b) wq6 (Bs_Rd b6) (show 1 < 5 by omega) stb (by omega) (by
    have h1 := c61 1 (by omega)
    have h2 := h05 1 (by omega)
    omega)
  have vs7 : Vs m7 := Vs_wq vs6 wf7 wq7
  have sf47 : Sf m4 m7 := Sf_trans (Sf_wf wf5) (Sf_trans (Sf_wf wf6) (Sf_wf wf7))
  have sf7 := Sf_trans sf24 sf47
  have sy7 : Sy m7 G P s sh lv mm LV J Q := Sy_sf h sf7 vs7 ⟨_, _, _, _, _, _, _, wq7⟩
  -- what the walk gives
  obtain ⟨ml, ml1, ml2⟩ := srt (gK G) (mm ++ (((lms (LV 0)).take b).drop a).flatten) (fun x hx => by
    rcases List.mem_append.mp hx with w | w
    · have := (hg.2.1 0 (by omega) x w).2
      omega
    · have := (hg.2.1 1 (by omega) x ((mem_cut hab x).mpr (Or.inr (Or.inl w)))).2
      omega)
  have hml : ∀ t, t ∈ ml ↔ t ∈ mm ∨ t ∈ (((lms (LV 0)).take b).drop a).flatten := fun t => by rw [ml2, List.mem_append]
  have hbd7 : ∀ r, r < 5 → a7 r ≤ s7 r ∧ s7 r ≤ (rms mm LV r).length := fun r hr => by
    by_cases c : r = 1
    · subst c
      exact ⟨c73, c74⟩
    · have g1 := c71 r c
      by_cases c' : r = 0
      · subst c'
        rw [g1.1, g1.2]
        exact ⟨c63, c64⟩
      · have g2 := c61 r c'
        have g3 := h05 r hr
        omega
  have hrl : Rl (gK G) (rms mm LV) a7 s7 ml := by
    refine ⟨ml1, fun t => ?_⟩
    rw [hml]
    constructor
    · rintro (w | w)
      · obtain ⟨i, i1, i2, i3⟩ := (mem_all t).mp w
        have g1 := c71 0 (by omega)
        have g2 := (c62 i).mpr ⟨i1, i2⟩
        exact ⟨0, by omega, i, by omega, by omega, i3⟩
      · obtain ⟨i, i1, i2, i3⟩ := (mem_mid hab t).mp w
        have g2 := (c72 i).mpr ⟨i1, i2⟩
        exact ⟨1, by omega, i, g2.1, g2.2, i3⟩
    · rintro ⟨r, hr, i, i1, i2, i3⟩
      by_cases c : r = 1
      · subst c
        have g2 := (c72 i).mp ⟨i1, i2⟩
        exact Or.inr ((mem_mid hab t).mpr ⟨i, g2.1, g2.2, i3⟩)
      · have g1 := c71 r c
        by_cases c' : r = 0
        · subst c'
          have g2 := (c62 i).mp ⟨by omega, by omega⟩
          exact Or.inl ((mem_all t).mpr ⟨i, g2.1, g2.2, i3⟩)
        · have g2 := c61 r c'
          have g3 := h05 r hr
          omega
  have hrr : ∀ x ∈ mm, ∀ y ∈ ([] : List Nat), gK G x < gK G y := fun x hx y hy => by cases hy
  have hcov : Cov (gK G) (rms mm LV) 0 ml := dn_cov hg.2.2 (by omega) hmq hrr hmu hts.1 ho hl0 hml
  obtain ⟨mo, fs, kp, k11, sx8, ox8, z1, z2, z3, z4, z5, z6⟩ := sy_need d (l := 0) sy7 hp hP hs (by omega) hcov wq7 hbd7 hrl
  have e4 : ∀ k, k < 4 → va_up LV 4 fs k = LV k := fun k hk => va_up_ne _ _ (by omega)
  obtain ⟨m10, k13, sx10, ox10⟩ := sx_rem (d + 5) (k := 0) (a := a) (b := b) sx8 (by omega) hab (by rw [e4 0 (by omega)]; exact hbl)
  generalize hLb : va_up (va_up LV 4 fs) 0 ((va_up LV 4 fs 0).take a ++ (va_up LV 4 fs 0).drop b) = Lb at *
  have lb1 : Lb 0 = (LV 0).take a ++ (LV 0).drop b := by rw [← hLb, va_up_self, e4 0 (by omega)]
  have lb2 : Lb 4 = fs := by rw [← hLb, va_up_ne _ _ (by omega), va_up_self]
  have lb3 : ∀ k, k < 4 → k ≠ 0 → Lb k = LV k := fun k h1 hk => by rw [← hLb, va_up_ne _ _ hk, e4 k h1]
  have hnt : (LV 0).length ≤ 256 := by
    have h1 := fl_len _ hts.2
    rw [lms_len] at h1
    omega
  have hkl : kp.length ≤ 512 := by
    have := pg kp (mm ++ (((lms (LV 0)).take b).drop a).flatten) (So_nd z2) (fun x hx => (ml2 x).mp (z1.1 x hx))
    rw [List.length_append] at this
    have h3 : (((lms (LV 0)).take b).drop a).flatten.length ≤ (lms (LV 0)).flatten.length := by
      conv => rhs; rw [cut_eq (ts := lms (LV 0)) hab]
      rw [List.flatten_append, List.flatten_append, List.length_append, List.length_append]
      omega
    omega
  have hta : ((LV 0).take a).length = a := by rw [List.length_take]; omega
  obtain ⟨m11, k14, sy11, ox11⟩ := sx_ins (d + 4) (k := 0) (a := a) sx10 (by omega) (by
      rw [lb1, lb2, List.length_append, List.length_take, List.length_drop]
      omega) (by
      rw [lb1, lb2, z3, lms_app, List.flatten_append, List.length_append]
      have h1 : (lms ((LV 0).take a)).flatten.length ≤ (lms (LV 0)).flatten.length := by
        conv => rhs; rw [← List.take_append_drop a (LV 0), lms_app, List.flatten_append, List.length_append]
        omega
      have h2 : (lms ((LV 0).drop b)).flatten.length ≤ (lms (LV 0)).flatten.length := by
        conv => rhs; rw [← List.take_append_drop b (LV 0), lms_app, List.flatten_append, List.length_append]
        omega
      omega) (by rw [lb1, List.length_append, hta]; omega)
  have eins : (Lb 0).take a ++ Lb 4 ++ (Lb 0).drop a = (LV 0).take a ++ fs ++ (LV 0).drop b := by
    rw [lb1, lb2]
    have h1 : ((LV 0).take a ++ (LV 0).drop b).take a = (LV 0).take a := by
      rw [List.take_append_of_le_length (by omega), List.take_take, Nat.min_self]
    have h2 : ((LV 0).take a ++ (LV 0).drop b).drop a = (LV 0).drop b := by
      rw [List.drop_append_of_le_length (by omega), List.drop_eq_nil_of_le (by omega), List.nil_append]
    rw [h1, h2]
  rw [eins] at sy11
  generalize hLc : va_up (va_up Lb 0 ((LV 0).take a ++ fs ++ (LV 0).drop b)) 4 [] = Lc at *
  have lc1 : Lc 0 = (LV 0).take a ++ fs ++ (LV 0).drop b := by rw [← hLc, va_up_ne _ _ (by omega), va_up_self]
  have lc3 : ∀ k, k < 4 → k ≠ 0 → Lc k = LV k := fun k h1 h3 => by rw [← hLc, va_up_ne _ _ (by omega), va_up_ne _ _ h3, lb3 _ h1 h3]
  obtain ⟨m12, k15, sy12, ox12⟩ := sy_clear (d + 9) sy11
  have hfin := dn_fin (mm' := []) (LV' := Lc) (s := s) hp (show 0 < 4 by omega) hmq hrr ho hl0 hml z1 z2 z3 z4 z5 rfl lc1 (fun r h5 h1 h2 => by
      unfold rms
      rw [if_neg h1, if_neg h1, lc3 (r - 1) (by omega) (by omega)]) (fun k h1 h2 => by
      rw [lc3 k h1 h2]
      exact hp.2.2.2 k h1)
  have hphi : phi [] Lc ≤ phi mm LV := by
    have h1 := dn_len (u := 0) (LV' := Lc) hab hml z1.1 z2 z3 lc1
    unfold phi
    rw [lc3 1 (by omega) (by omega), lc3 2 (by omega) (by omega), List.length_nil]
    omega
  refine ⟨m12, Lc, ?_, sy12, hfin.1, hfin.2, Ox_trans (Ox_sf sf7) (Ox_trans ox8 (Ox_trans ox10 (Ox_trans ox11 ox12))), hphi⟩
  have l0 : mem.2.2 4 = _ := a1
  have l1 : m1.2.2 4 = _ := (sf1.2.2 4 (by unfold scell; omega)).trans a1
  have l2 : m2.2.2 4 = _ := ((Sf_trans sf1 sf2).2.2 4 (by unfold scell; omega)).trans a1
  have l3 : m3.2.2 4 = _ := ((Sf_trans sf1 (Sf_trans sf2 sf3)).2.2 4 (by unfold scell; omega)).trans a1
  have l4 : m4.2.2 4 = _ := (sf24.2.2 4 (by unfold scell; omega)).trans a1
  have l5 : m5.2.2 4 = _ := ((Sf_trans sf24 (Sf_wf wf5)).2.2 4 (by unfold scell; omega)).trans a1
  have l6 : m6.2.2 4 = _ := ((Sf_trans sf24 (Sf_trans (Sf_wf wf5) (Sf_wf wf6))).2.2 4 (by unfold scell; omega)).trans a1
  have l7 : m7.2.2 4 = _ := (sf7.2.2 4 (by unfold scell; omega)).trans a1
  have o0 := h2.1.1
  have o1 := b1.1.1
  have o2 := (b2.2.2.2.1 0 (by omega)).1.1
  have o3 := (b3.2.2.2.1 0 (by omega)).1.1
  have o5 := b5.1.1
  have o6 := hLv6.1
  have w48 := wq4.1
  have w5 := wq5.1
  have w6 := wq6.1
  obtain ⟨f8, o8⟩ := Sx_lv sx8 (show 0 < 4 by omega)
  obtain ⟨f10, o10⟩ := Sx_lv sx10 (show 0 < 4 by omega)
  have l10 : m10.2.2 4 = some (.inr (0, [.int sh, .int lv, .ref 5, .ref 7, .ref 9, .ref 14, .ref 18, .ref 19, .ref 48, .ref 66, .ref 20, .ref 22, .ref 24, .ref 26, .ref 28, .ref 30])) := Sx_lt sx10
  obtain ⟨sm10, bs10, w10⟩ := Sx_wp sx10
  have kt := x_Wr_tables (d + 9) w10
  have w66 := w10.1
  have l11 : m11.2.2 4 = some (.inr (0, [.int sh, .int lv, .ref 5, .ref 7, .ref 9, .ref 14, .ref 18, .ref 19, .ref 48, .ref 66, .ref 20, .ref 22, .ref 24, .ref 26, .ref 28, .ref 30])) := by
    obtain ⟨R, E, C, B, Wn, T, U, D, e, cap, g1, -⟩ := sy11
    exact g1.1
  have o11 : ∃ fs, m11.2.2 14 = some (.inr (4, fs)) := by
    obtain ⟨R, E, C, B, Wn, T, U, D, e, cap, -, g2, -⟩ := sy11
    exact ⟨_, g2.1.1⟩
  obtain ⟨f11, o11⟩ := o11
  refine ⟨e_LT_writeOut, rfl, Nat.le_of_ble_eq_true rfl, ?_⟩
  repeat (first | refine ev_go rfl (by rfl) ?_ | refine ev_gf rfl (by assumption) (by rfl) (by rfl) ?_)
  refine ev_alqN (i := 0) rfl (by assumption) (by rfl) (by omega) (by omega) ?_
  rw [a4' 0 (by omega)]
  repeat (first | refine ev_go rfl (by rfl) ?_ | refine ev_gf rfl (by assumption) (by rfl) (by rfl) ?_)
  refine ev_cv (as := [.int (nI 0), .ref 26]) rfl rfl rfl (by assumption) (by rfl) (by rfl) (k2) ?_
  repeat (first | refine ev_go rfl (by rfl) ?_ | refine ev_gf rfl (by assumption) (by rfl) (by rfl) ?_)
  refine ev_cv (as := []) rfl rfl rfl (by assumption) (by rfl) (by rfl) (kc1) ?_
  repeat (first | refine ev_go rfl (by rfl) ?_ | refine ev_gf rfl (by assumption) (by rfl) (by rfl) ?_)
  refine ev_cv (as := [.int (nI mm.length - 1), .ref 28]) rfl rfl rfl (by assumption) (by rfl) (by rfl) (k3) ?_
  repeat (first | refine ev_go rfl (by rfl) ?_ | refine ev_gf rfl (by assumption) (by rfl) (by rfl) ?_)
  refine ev_cv (as := [.ref 26]) rfl rfl rfl (by assumption) (by rfl) (by rfl) (k4) ?_
  repeat (first | refine ev_go rfl (by rfl) ?_ | refine ev_gf rfl (by assumption) (by rfl) (by rfl) ?_)
  refine ev_cv (as := [.ref 28]) rfl rfl rfl (by assumption) (by rfl) (by rfl) (k5) ?_
  repeat (first | refine ev_go rfl (by rfl) ?_ | refine ev_gf rfl (by assumption) (by rfl) (by rfl) ?_)
  refine ev_cv (as := []) rfl rfl rfl (by assumption) (by rfl) (by rfl) (k6) ?_
  repeat (first | refine ev_go rfl (by rfl) ?_ | refine ev_gf rfl (by assumption) (by rfl) (by rfl) ?_)
  refine ev_cv (as := []) rfl rfl rfl (by assumption) (by rfl) (by rfl) (kc5) ?_
  refine ev_cv (as := [.int (nI 0), .int (nI 0), .int (nI mm.length)]) rfl rfl rfl (by assumption) (by rfl) (by rfl) (k7) ?_
  repeat (first | refine ev_go rfl (by rfl) ?_ | refine ev_gf rfl (by assumption) (by rfl) (by rfl) ?_)
  refine ev_cv (as := [.int (nI a)]) rfl rfl rfl (by assumption) (by rfl) (by rfl) (k8) ?_
  repeat (first | refine ev_go rfl (by rfl) ?_ | refine ev_gf rfl (by assumption) (by rfl) (by rfl) ?_)
  refine ev_cv (as := [.int (nI b)]) rfl rfl rfl (by assumption) (by rfl) (by rfl) (k9) ?_
  refine ev_cv (as := [.int (nI 1), .int (nI (stl (lms (LV 0)) a)), .int (nI (stl (lms (LV 0)) b))]) rfl rfl rfl (by assumption) (by rfl) (by rfl) (k10) ?_
  repeat (first | refine ev_go rfl (by rfl) ?_ | refine ev_gf rfl (by assumption) (by rfl) (by rfl) ?_)
  refine ev_cv (as := [.int (nI 0)]) rfl rfl rfl (by assumption) (by rfl) (by rfl) (k11) ?_
  repeat (first | refine ev_go rfl (by rfl) ?_ | refine ev_gf rfl (by assumption) (by rfl) (by rfl) ?_)
  refine ev_cv (as := [.int (nI a), .int (nI b)]) rfl rfl rfl (by assumption) (by rfl) (by rfl) (k13) ?_
  repeat (first | refine ev_go rfl (by rfl) ?_ | refine ev_gf rfl (by assumption) (by rfl) (by rfl) ?_)
  refine ev_cv (as := []) rfl rfl rfl (by assumption) (by rfl) (by rfl) (kt) ?_
  refine ev_cv (as := [.int (nI a), .ref 67]) rfl rfl rfl (by assumption) (by rfl) (by rfl) (k14) ?_
  repeat (first | refine ev_go rfl (by rfl) ?_ | refine ev_gf rfl (by assumption) (by rfl) (by rfl) ?_)
  refine ev_cv (as := []) rfl rfl rfl (by assumption) (by rfl) (by rfl) (k15) ?_
  exact j_ev.ret rfl
end OUT
