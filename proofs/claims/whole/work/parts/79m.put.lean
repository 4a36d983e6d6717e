/-! LEVELTABLES: addVersion, put, out (own text) -/
def lvd (lv : Int32) (th bef : Nat) : Int32 := if th = bef then lv else if th = 0 then lv + (-1) else lv + 1
/-- what is none of the store's, the shown version too; not the tape -/
def Oy (mem mem' : j_M) : Prop := ∀ c, c < 4 ∨ c = 6 ∨ c = 30 ∨ c = 31 ∨ (69 ≤ c ∧ c < 78) → mem'.2.2 c = mem.2.2 c
section PUT
variable {mem : j_M} {G : Nat → Nat → Int64} {P : Nat} {s : Nat → Option Nat} {sh lv : Int32} {mm : List Nat} {LV : Nat → List TG} {J Q L th sz pl : Nat} {b : Nat → Int32}
theorem ins_getD {l : List Nat} {x k i : Nat} (hk : k ≤ l.length) (hi : i < l.length + 1) : (l.take k ++ x :: l.drop k).getD i 0 = if i < k then l.getD i 0 else if i = k then x else l.getD (i - 1) 0 := getD_ins hk
theorem x_LT_add (d : Nat) (h : Sy mem G P s sh lv mm LV J Q) (hp : Pu G P mm LV) (hP : P < 256) (hT : Ta mem L b) (hL : 1 ≤ L ∧ L ≤ 40) (hth : th ≤ 1) (hsz : sz < 1024) (hpl : pl < 2 ^ 31) :
    ∃ mem' g mm' bef, j_ex tb (d + 10) m_LT_addVersion [.ref 4, .int (nI th), .int (nI sz), .int (nI pl)] mem (.inl (some (.int (nI (P + 1))))) mem' ∧ Sy mem' (va_up G (P + 1) g) (P + 1) s sh (lvd lv th bef) mm' LV J Q ∧ Pu (va_up G (P + 1) g) (P + 1) mm' LV ∧ (∀ t, mem5 (rms mm' LV) t ↔ mem5 (rms mm LV) t ∨ t = P + 1) ∧ mm'.length = mm.length + 1 ∧ Ta mem' 0 b ∧
      (v_num g = nm (tg b L) 40 ∧ v_len g = L ∧ v_mom g = P + 1 ∧ v_th g = th ∧ v_sz g = sz ∧ v_pl g = pl) ∧ ((bef = 1 ∧ ∃ x, sst (gK G) (gT G) (mem5 (rms mm LV)) P x ∧ gK G x = ky b L) ∨ (bef = 0 ∧ ¬ ∃ x, sst (gK G) (gT G) (mem5 (rms mm LV)) P x ∧ gK G x = ky b L)) ∧ Oy mem mem' := by
  obtain ⟨R, E, C, B, Wn, T, U, D, hb, hsb⟩ := Sy_bs h
  obtain ⟨fk, hfk⟩ := hsb.2.2.2.2.1 20 (by unfold vcell; omega)
  obtain ⟨f', ks, k1⟩ := x_Tp_moveTo (d + 6) hT hfk (by omega) (by omega) hL.2
  change j_ex tb (d + 6 + 3) m_Tp_moveTo [.ref 5, .ref 20] mem (.inl none) (j_set (j_set mem 21 (vW f')) 5 (.inr (1, [.int (nI 0), .ref 6]))) at k1
  have klen := (kS_all (by omega) ks).1
  have kkey : v_key f' = ky b L := kS_key (by omega) ks
  generalize hm1 : j_set (j_set mem 21 (vW f')) 5 (.inr (1, [.int (nI 0), .ref 6])) = m1 at k1
  have af1 : Af mem m1 := by rw [← hm1]; exact Af_trans (Af_set _ _ (by omega)) (Af_set _ _ (by omega))
  have x1 : ∀ c, c ≠ 21 → c ≠ 5 → m1.2.2 c = mem.2.2 c := fun c c1 c2 => by rw [← hm1, st_ne _ _ c2, st_ne _ _ c1]
  have hV1 : Vs m1 := by
    rw [← hm1]
    exact Vs_fr (Vs_set (v := 20) hsb.2.2.2.2.1 (by unfold vcell; omega) f') (fun c c1 c2 => st_ne _ _ (by omega))
  have ve1 : Ve m1 20 21 f' := by
    refine ⟨(x1 20 (by omega) (by omega)).trans hfk.1, ?_⟩
    rw [← hm1, st_ne _ _ (by omega)]
    exact st_same _ _ _
  have ta1 : Ta m1 0 b := ⟨by rw [← hm1]; exact st_same _ _ _, (x1 6 (by omega) (by omega)).trans hT.2⟩
  have hVw1 : Vw m1 P s := ⟨(x1 7 (by omega) (by omega)).trans hsb.2.1.1, (x1 8 (by omega) (by omega)).trans hsb.2.1.2⟩
  have hM1 : Mw m1 mm.length R := ⟨(x1 14 (by omega) (by omega)).trans hb.1.1, trivial, (x1 17 (by omega) (by omega)).trans hb.1.2.2⟩
  have sy1 : Sy m1 G P s sh lv mm LV J Q := Sy_af h af1 ((x1 4 (by omega) (by omega)).trans hsb.1) hVw1 hM1 hb.2.1 hb.2.2.1 (fun _ _ _ _ _ _ => rfl) hV1
  obtain ⟨m2, bef, k2, hf2, hV2, hbef⟩ := gh_find d (m := P) hp sy1 (Or.inl rfl) ve1 (by omega)
  rw [kkey] at hbef
  have x2 : ∀ c, c ≠ 23 ∧ c ≠ 25 ∧ c ≠ 16 ∧ c ≠ 34 ∧ c ≠ 38 ∧ c ≠ 42 ∧ c ≠ 46 → m2.2.2 c = m1.2.2 c := fun c q => hf2.2.2 c q.1 q.2.1 q.2.2.1 q.2.2.2.1 q.2.2.2.2.1 q.2.2.2.2.2.1 q.2.2.2.2.2.2
  have hVw2 : Vw m2 P s := ⟨(x2 7 (by omega)).trans hVw1.1, (x2 8 (by omega)).trans hVw1.2⟩
  have k3 := x_Vi_step (d + 8) hVw2
  generalize hm3 : j_set m2 7 (.inr (2, [.int (nI (P + 1)), .ref 8])) = m3 at k3
  have x3 : ∀ c, c ≠ 7 → m3.2.2 c = m2.2.2 c := fun c c1 => by rw [← hm3, st_ne _ _ c1]
  have hVw3 : Vw m3 (P + 1) s := ⟨by rw [← hm3]; exact st_same _ _ _, (x3 8 (by omega)).trans hVw2.2⟩
  have ve3 : Ve m3 20 21 f' := ⟨(x3 20 (by omega)).trans ((x2 20 (by omega)).trans ve1.1), (x3 21 (by omega)).trans ((x2 21 (by omega)).trans ve1.2)⟩
  have k4 := x_Ve_describe (d + 7) (m := P + 1) (t := th) (s := sz) (p := pl) ve3 (by omega) (by omega) (by omega) hsz hpl
  have hd := v_desc (f := f') (m := P + 1) (t := th) (s := sz) (p := pl) (by omega) (by omega) hsz hpl
  change j_ex tb (d + 7 + 2) m_Ve_describe [.ref 20, .int (nI (P + 1)), .int (nI th), .int (nI sz), .int (nI pl)] m3 (.inl none) (j_set m3 21 (vW (vp_updL f' 5 (lN (v_pk (v_len f') (P + 1) th sz pl))))) at k4
  generalize vp_updL f' 5 (lN (v_pk (v_len f') (P + 1) th sz pl)) = g at k4 hd
  generalize hm4 : j_set m3 21 (vW g) = m4 at k4
  have x4 : ∀ c, c ≠ 21 → m4.2.2 c = m3.2.2 c := fun c c1 => by rw [← hm4, st_ne _ _ c1]
  have ve4 : Ve m4 20 21 g := ⟨(x4 20 (by omega)).trans ve3.1, by rw [← hm4]; exact st_same _ _ _⟩
  have hV4 : Vs m4 := by
    rw [← hm4]
    refine Vs_set (v := 20) ?_ (by unfold vcell; omega) g
    rw [← hm3]
    exact Vs_fr hV2 (fun c c1 c2 => st_ne _ _ (by omega))
  obtain ⟨fm, hfm⟩ := hV4 15 (by unfold vcell; omega)
  have hM4 : Mm m4 mm.length R fm := ⟨(x4 14 (by omega)).trans ((x3 14 (by omega)).trans ((x2 14 (by omega)).trans hM1.1)), hfm, (x4 17 (by omega)).trans ((x3 17 (by omega)).trans ((x2 17 (by omega)).trans hM1.2.2))⟩
  have htot := Pu_tot hp
  have rowm : ∀ i, i < mm.length → v_ord (row R i) = v_ord (G (mm.getD i 0)) := fun i hi => sw_ord (hb.2.2.1 i hi)
  obtain ⟨k, f'', i1, i2, i3, k5⟩ := x_Me_insert d hM4 (by omega) ve4 (by omega) (by omega) (fun i j hij hj => by
    rw [rowm i (by omega), rowm j hj]
    exact Rg_s hp.1 hp.2.1 0 (by omega) i j hij hj)
  generalize hm5 : j_set (j_set (j_set m4 16 (vW f'')) 17 (.inl (1, 3000, .inr (.inl (rIns R g mm.length k))))) 14 (.inr (4, [.ref 15, .int (nI (mm.length + 1)), .ref 17])) = m5 at k5
  have x5 : ∀ c, c ≠ 14 → c ≠ 16 → c ≠ 17 → m5.2.2 c = m4.2.2 c := fun c c1 c2 c3 => by rw [← hm5, st_ne _ _ c1, st_ne _ _ c3, st_ne _ _ c2]
  have hgm : v_mom g = P + 1 := hd.2.2.1
  have hpu := Pu_add (g := g) (k := k) hp (by omega) hgm i1 (fun i hi => by rw [← rowm i (by omega)]; exact i2 i hi) (fun i hi hi2 => by rw [← rowm i hi2]; exact i3 i hi hi2)
  have hlen' : (mm.take k ++ (P + 1) :: mm.drop k).length = mm.length + 1 := by
    rw [List.length_append, List.length_cons, List.length_take, List.length_drop]
    omega
  have hrow' : ∀ i, i < (mm.take k ++ (P + 1) :: mm.drop k).length → sw (row (rIns R g mm.length k) i) (va_up G (P + 1) g ((mm.take k ++ (P + 1) :: mm.drop k).getD i 0)) := fun i hi => by
    rw [hlen'] at hi
    rw [ins_getD i1 hi]
    have old : ∀ i, i < mm.length → va_up G (P + 1) g (mm.getD i 0) = G (mm.getD i 0) := fun i hi => va_up_ne _ _ (by
      have := hp.2.2.1 0 (by omega) (mm.getD i 0) (getD_mm hi)
      omega)
    by_cases c : i < k
    · rw [if_pos c, old i (by omega)]
      exact sw_tr (rIns_lt R g c) (hb.2.2.1 i (by omega))
    · rw [if_neg c]
      by_cases c2 : i = k
      · rw [if_pos c2, va_up_self, c2]
        exact rIns_eq R g
      · rw [if_neg c2, old (i - 1) (by omega)]
        have := rIns_gt R g (n := mm.length) (k := k) (i := i - 1) (by omega) (by omega)
        rw [show i - 1 + 1 = i by omega] at this
        exact sw_tr this (hb.2.2.1 (i - 1) (by omega))
  have af5 : Af mem m5 := by
    refine Af_trans af1 (Af_trans (Af_hf hf2) ?_)
    rw [← hm5, ← hm4, ← hm3]
    exact Af_trans (Af_set _ _ (by omega)) (Af_trans (Af_set _ _ (by omega)) (Af_trans (Af_set _ _ (by omega)) (Af_trans (Af_set _ _ (by omega)) (Af_set _ _ (by omega)))))
  have hV5 : Vs m5 := fun v hv => by
    obtain ⟨ff, hff⟩ := hV4 v hv
    unfold vcell at hv
    by_cases c : v = 15
    · subst c
      refine ⟨f'', (x5 15 (by omega) (by omega) (by omega)).trans hff.1, ?_⟩
      rw [← hm5, st_ne _ _ (by omega), st_ne _ _ (by omega)]
      exact st_same _ _ _
    · exact ⟨ff, (x5 v (by omega) (by omega) (by omega)).trans hff.1, (x5 (v + 1) (by omega) (by omega) (by omega)).trans hff.2⟩
  have hM5 : Mw m5 (mm.take k ++ (P + 1) :: mm.drop k).length (rIns R g mm.length k) := by
    rw [hlen']
    refine ⟨by rw [← hm5]; exact st_same _ _ _, trivial, ?_⟩
    rw [← hm5, st_ne _ _ (by omega)]
    exact st_same _ _ _
  have hVw5 : Vw m5 (P + 1) s := ⟨(x5 7 (by omega) (by omega) (by omega)).trans ((x4 7 (by omega)).trans hVw3.1), (x5 8 (by omega) (by omega) (by omega)).trans ((x4 8 (by omega)).trans hVw3.2)⟩
  have c4 : ∀ c, c ≠ 14 ∧ c ≠ 16 ∧ c ≠ 17 ∧ c ≠ 21 ∧ c ≠ 7 ∧ c ≠ 23 ∧ c ≠ 25 ∧ c ≠ 34 ∧ c ≠ 38 ∧ c ≠ 42 ∧ c ≠ 46 ∧ c ≠ 5 → m5.2.2 c = mem.2.2 c := fun c q => (x5 c (by omega) (by omega) (by omega)).trans ((x4 c (by omega)).trans ((x3 c (by omega)).trans ((x2 c (by omega)).trans (x1 c (by omega) (by omega)))))
  have lt5 : m5.2.2 4 = some (ltC sh lv) := (c4 4 (by omega)).trans hsb.1
  have ta5 : Ta m5 0 b := ⟨(x5 5 (by omega) (by omega) (by omega)).trans ((x4 5 (by omega)).trans ((x3 5 (by omega)).trans ((x2 5 (by omega)).trans ta1.1))), (c4 6 (by omega)).trans hT.2⟩
  have hGo : ∀ k, k < 4 → ∀ τ ∈ LV k, ∀ t ∈ τ.2, va_up G (P + 1) g t = G t := fun k hk τ hτ t ht => va_up_ne _ _ (by
    have : t ∈ rms mm LV (k + 1) := List.mem_flatten.mpr ⟨τ.2, List.mem_map.mpr ⟨τ, hτ, rfl⟩, ht⟩
    have := hp.2.2.1 (k + 1) (by omega) t this
    omega)
  have hbef1 : bef = 0 ∨ bef = 1 := by
    rcases hbef with q | q
    · exact Or.inr q.1
    · exact Or.inl q.1
  have hbef' : (bef = 1 ∧ ∃ x, sst (gK G) (gT G) (mem5 (rms mm LV)) P x ∧ gK G x = ky b L) ∨ (bef = 0 ∧ ¬ ∃ x, sst (gK G) (gT G) (mem5 (rms mm LV)) P x ∧ gK G x = ky b L) := by
    rcases hbef with ⟨q, x, ff, q1, q2, -⟩ | q
    · exact Or.inl ⟨q, x, q1, q2⟩
    · exact Or.inr q
  -- the count of what lives
  have fin : ∃ m6, (∀ mo, j_ev (d + 10) (j_ex tb (d + 9)) (j_tab q_LT_addVersion) [] (.inl (some (.int (nI (P + 1))))) (mo) 109 [some (.ref 4), some (.int (nI th)), some (.int (nI sz)), some (.int (nI pl)), some (.int (nI bef))] [] m6 → j_ev (d + 10) (j_ex tb (d + 9)) (j_tab q_LT_addVersion) [] (.inl (some (.int (nI (P + 1))))) (mo) 85 [some (.ref 4), some (.int (nI th)), some (.int (nI sz)), some (.int (nI pl)), some (.int (nI bef))] [] m5) ∧ m6.1 = m5.1 ∧ m6.2.1 = m5.2.1 ∧ (∀ c, c ≠ 4 → m6.2.2 c = m5.2.2 c) ∧ m6.2.2 4 = some (ltC sh (lvd lv th bef)) := by
    have lt5' := lt5
    unfold ltC at lt5'
    rcases hbef1 with e1 | e1
    · subst e1
      rcases Nat.eq_zero_or_pos th with e2 | e2
      · subst e2
        refine ⟨m5, fun mo kk => ?_, rfl, rfl, fun _ _ => rfl, lt5⟩
        repeat (first | exact kk | refine ev_go rfl (by rfl) ?_ | refine ev_gf rfl (by assumption) (by rfl) (by rfl) ?_)
      · have e2 : th = 1 := by omega
        subst e2
        refine ⟨j_set m5 4 (ltC sh (lv + 1)), fun mo kk => ?_, rfl, rfl, fun c hc => st_ne _ _ hc, st_same _ _ _⟩
        repeat (first | refine ev_go rfl (by rfl) ?_ | refine ev_gf rfl (by assumption) (by rfl) (by rfl) ?_)
        refine ev_pf rfl (by assumption) (by rfl) (by rfl) (by rfl) ?_
        exact kk
    · subst e1
      rcases Nat.eq_zero_or_pos th with e2 | e2
      · subst e2
        refine ⟨j_set m5 4 (ltC sh (lv + (-1))), fun mo kk => ?_, rfl, rfl, fun c hc => st_ne _ _ hc, st_same _ _ _⟩
        repeat (first | refine ev_go rfl (by rfl) ?_ | refine ev_gf rfl (by assumption) (by rfl) (by rfl) ?_)
        refine ev_pf rfl (by assumption) (by rfl) (by rfl) (by rfl) ?_
        exact kk
      · have e2 : th = 1 := by omega
        subst e2
        refine ⟨m5, fun mo kk => ?_, rfl, rfl, fun _ _ => rfl, lt5⟩
        repeat (first | exact kk | refine ev_go rfl (by rfl) ?_ | refine ev_gf rfl (by assumption) (by rfl) (by rfl) ?_)
  obtain ⟨m6, fin, g1, g2, g3, g4⟩ := fin
  have af6 : Af mem m6 := Af_trans af5 ⟨g1, g2, fun c a1 a2 a3 a4 a5 a6 a7 a8 a9 a10 a11 a12 a13 => g3 c a1⟩
  have hV6 : Vs m6 := Vs_fr hV5 (fun c c1 c2 => g3 c (by omega))
  have hVw6 : Vw m6 (P + 1) s := ⟨(g3 7 (by omega)).trans hVw5.1, (g3 8 (by omega)).trans hVw5.2⟩
  have hM6 : Mw m6 (mm.take k ++ (P + 1) :: mm.drop k).length (rIns R g mm.length k) := ⟨(g3 14 (by omega)).trans hM5.1, trivial, (g3 17 (by omega)).trans hM5.2.2⟩
  have kpr := x_Vi_present (d + 8) hVw1
  have kpr3 := x_Vi_present (d + 8) hVw3
  have kpr6 := x_Vi_present (d + 8) hVw6
  refine ⟨m6, g, mm.take k ++ (P + 1) :: mm.drop k, bef, ?_, Sy_af h af6 g4 hVw6 hM6 (by rw [hlen']; omega) hrow' hGo hV6, hpu.1, hpu.2, hlen', ⟨(g3 5 (by omega)).trans ta5.1, (g3 6 (by omega)).trans ta5.2⟩, ⟨hd.1.trans ks.1, hd.2.1.trans klen, hgm, hd.2.2.2.1, hd.2.2.2.2.1, hd.2.2.2.2.2⟩, hbef', fun c hc => (g3 c (by omega)).trans (c4 c (by omega))⟩
  have l0 : mem.2.2 4 = _ := hsb.1
  have l1 : m1.2.2 4 = _ := (x1 4 (by omega) (by omega)).trans hsb.1
  have l2 : m2.2.2 4 = _ := (x2 4 (by omega)).trans l1
  have l3 : m3.2.2 4 = _ := (x3 4 (by omega)).trans l2
  have l4 : m4.2.2 4 = _ := (x4 4 (by omega)).trans l3
  have l6 := g4
  unfold ltC at l6
  have t5 := hT.1
  have v7 := hVw1.1
  have v72 := hVw2.1
  have v73 := hVw3.1
  have v76 := hVw6.1
  have v20 := ve3.1
  have o14 := hM4.1
  have finn := fin m6 (by
    repeat (first | refine ev_go rfl (by rfl) ?_ | refine ev_gf rfl (by assumption) (by rfl) (by rfl) ?_)
    refine ev_cv (as := []) rfl rfl rfl (by assumption) (by rfl) (by rfl) (kpr6) ?_
    exact j_ev.ret rfl)
  clear fin
  refine ⟨e_LT_addVersion, rfl, Nat.le_of_ble_eq_true rfl, ?_⟩
  repeat (first | refine ev_go rfl (by rfl) ?_ | refine ev_gf rfl (by assumption) (by rfl) (by rfl) ?_)
  refine ev_cv (as := [.ref 20]) rfl rfl rfl (by assumption) (by rfl) (by rfl) (k1) ?_
  repeat (first | refine ev_go rfl (by rfl) ?_ | refine ev_gf rfl (by assumption) (by rfl) (by rfl) ?_)
  refine ev_cv (as := []) rfl rfl rfl (by assumption) (by rfl) (by rfl) (kpr) ?_
  repeat (first | refine ev_go rfl (by rfl) ?_ | refine ev_gf rfl (by assumption) (by rfl) (by rfl) ?_)
  refine ev_icT rfl (by exact b_lt (a := P) (b := 500) (by omega) (by omega) (by omega)) ?_
  repeat (first | refine ev_go rfl (by rfl) ?_ | refine ev_gf rfl (by assumption) (by rfl) (by rfl) ?_)
  refine ev_cv (as := []) rfl rfl rfl (by assumption) (by rfl) (by rfl) (kpr) ?_
  repeat (first | refine ev_go rfl (by rfl) ?_ | refine ev_gf rfl (by assumption) (by rfl) (by rfl) ?_)
  refine ev_cv (as := [.ref 20, .int (nI P), .int (nI 0)]) rfl rfl rfl (by assumption) (by rfl) (by rfl) (k2) ?_
  repeat (first | refine ev_go rfl (by rfl) ?_ | refine ev_gf rfl (by assumption) (by rfl) (by rfl) ?_)
  refine ev_cv (as := []) rfl rfl rfl (by assumption) (by rfl) (by rfl) (k3) ?_
  repeat (first | refine ev_go rfl (by rfl) ?_ | refine ev_gf rfl (by assumption) (by rfl) (by rfl) ?_)
  refine ev_cv (as := []) rfl rfl rfl (by assumption) (by rfl) (by rfl) (kpr3) ?_
  repeat (first | refine ev_go rfl (by rfl) ?_ | refine ev_gf rfl (by assumption) (by rfl) (by rfl) ?_)
  refine ev_cv (as := [.int (nI (P + 1)), .int (nI th), .int (nI sz), .int (nI pl)]) rfl rfl rfl (by assumption) (by rfl) (by rfl) (k4) ?_
  repeat (first | refine ev_go rfl (by rfl) ?_ | refine ev_gf rfl (by assumption) (by rfl) (by rfl) ?_)
  refine ev_cv (as := [.ref 20]) rfl rfl rfl (by assumption) (by rfl) (by rfl) (k5) ?_
  repeat (first | exact finn | refine ev_go rfl (by rfl) ?_ | refine ev_gf rfl (by assumption) (by rfl) (by rfl) ?_)
theorem x_LT_put (d : Nat) (h : Sy mem G P s sh lv mm LV J Q) (hp : Pu G P mm LV) (hP : P < 256) (hT : Ta mem L b) (hL : 1 ≤ L ∧ L ≤ 40) (hsz : sz ≤ 1000) (hpl : pl < 2 ^ 31) :
    ∃ mem' g mm' bef, j_ex tb (d + 11) m_LT_put [.ref 4, .int (nI pl), .int (nI sz)] mem (.inl (some (.int (nI (P + 1))))) mem' ∧ Sy mem' (va_up G (P + 1) g) (P + 1) s sh (lvd lv 1 bef) mm' LV J Q ∧ Pu (va_up G (P + 1) g) (P + 1) mm' LV ∧ (∀ t, mem5 (rms mm' LV) t ↔ mem5 (rms mm LV) t ∨ t = P + 1) ∧ mm'.length = mm.length + 1 ∧ Ta mem' 0 b ∧
      (v_num g = nm (tg b L) 40 ∧ v_len g = L ∧ v_mom g = P + 1 ∧ v_th g = 1 ∧ v_sz g = sz ∧ v_pl g = pl) ∧ ((bef = 1 ∧ ∃ x, sst (gK G) (gT G) (mem5 (rms mm LV)) P x ∧ gK G x = ky b L) ∨ (bef = 0 ∧ ¬ ∃ x, sst (gK G) (gT G) (mem5 (rms mm LV)) P x ∧ gK G x = ky b L)) ∧ Oy mem mem' := by
  obtain ⟨mem', g, mm', bef, k1, k2⟩ := x_LT_add d (th := 1) (sz := sz) h hp hP hT hL (by omega) (by omega) hpl
  refine ⟨mem', g, mm', bef, ?_, k2⟩
  have l0 := Sy_lt h
  have kh := x_Tp_hasKey (d + 9) hT (by omega)
  rw [if_pos hL] at kh
  have t5 := hT.1
  refine ⟨e_LT_put, rfl, Nat.le_of_ble_eq_true rfl, ?_⟩
  repeat (first | refine ev_go rfl (by rfl) ?_ | refine ev_gf rfl (by assumption) (by rfl) (by rfl) ?_)
  refine ev_ifF rfl (by exact b_nlt (a := pl) (b := 0) (by omega) (by omega) (by omega)) ?_
  repeat (first | refine ev_go rfl (by rfl) ?_ | refine ev_gf rfl (by assumption) (by rfl) (by rfl) ?_)
  refine ev_ifF rfl (by exact b_nlt (a := sz) (b := 0) (by omega) (by omega) (by omega)) ?_
  repeat (first | refine ev_go rfl (by rfl) ?_ | refine ev_gf rfl (by assumption) (by rfl) (by rfl) ?_)
  refine ev_icF rfl (by exact b_nlt (a := 1000) (b := sz) (by omega) (by omega) (by omega)) ?_
  repeat (first | refine ev_go rfl (by rfl) ?_ | refine ev_gf rfl (by assumption) (by rfl) (by rfl) ?_)
  refine ev_cv (as := []) rfl rfl rfl (by assumption) (by rfl) (by rfl) (kh) ?_
  repeat (first | refine ev_go rfl (by rfl) ?_ | refine ev_gf rfl (by assumption) (by rfl) (by rfl) ?_)
  refine ev_cv (as := [.int (nI 1), .int (nI sz), .int (nI pl)]) rfl rfl rfl (by assumption) (by rfl) (by rfl) (k1) ?_
  exact j_ev.ret rfl
theorem x_LT_outp (d : Nat) (h : Sy mem G P s sh lv mm LV J Q) (hp : Pu G P mm LV) (hP : P < 256) (hT : Ta mem L b) (hL : 1 ≤ L ∧ L ≤ 40) :
    ∃ mem' g mm' bef, j_ex tb (d + 11) m_LT_out [.ref 4] mem (.inl (some (.int (nI (P + 1))))) mem' ∧ Sy mem' (va_up G (P + 1) g) (P + 1) s sh (lvd lv 0 bef) mm' LV J Q ∧ Pu (va_up G (P + 1) g) (P + 1) mm' LV ∧ (∀ t, mem5 (rms mm' LV) t ↔ mem5 (rms mm LV) t ∨ t = P + 1) ∧ mm'.length = mm.length + 1 ∧ Ta mem' 0 b ∧
      (v_num g = nm (tg b L) 40 ∧ v_len g = L ∧ v_mom g = P + 1 ∧ v_th g = 0 ∧ v_sz g = 0 ∧ v_pl g = 0) ∧ ((bef = 1 ∧ ∃ x, sst (gK G) (gT G) (mem5 (rms mm LV)) P x ∧ gK G x = ky b L) ∨ (bef = 0 ∧ ¬ ∃ x, sst (gK G) (gT G) (mem5 (rms mm LV)) P x ∧ gK G x = ky b L)) ∧ Oy mem mem' := by
  obtain ⟨mem', g, mm', bef, k1, k2⟩ := x_LT_add d (th := 0) (sz := 0) (pl := 0) h hp hP hT hL (by omega) (by omega) (by omega)
  refine ⟨mem', g, mm', bef, ?_, k2⟩
  have l0 := Sy_lt h
  have kh := x_Tp_hasKey (d + 9) hT (by omega)
  rw [if_pos hL] at kh
  have t5 := hT.1
  refine ⟨e_LT_out, rfl, Nat.le_of_ble_eq_true rfl, ?_⟩
  repeat (first | refine ev_go rfl (by rfl) ?_ | refine ev_gf rfl (by assumption) (by rfl) (by rfl) ?_)
  refine ev_cv (as := []) rfl rfl rfl (by assumption) (by rfl) (by rfl) (kh) ?_
  repeat (first | refine ev_go rfl (by rfl) ?_ | refine ev_gf rfl (by assumption) (by rfl) (by rfl) ?_)
  refine ev_cv (as := [.int (nI 0), .int (nI 0), .int (nI 0)]) rfl rfl rfl (by assumption) (by rfl) (by rfl) (k1) ?_
  exact j_ev.ret rfl
/-- refused: no key on the tape, a place or a size out of bounds -/
theorem x_LT_outT (d : Nat) (hd : 6 ≤ d) (h : LT mem sh lv) (hT : Ta mem L b) (hL : L ≤ 60) (hn : ¬ (1 ≤ L ∧ L ≤ 40)) : j_ex tb (d + 2) m_LT_out [.ref 4] mem (.inr (0, mem.1)) (thr mem) := by
  have l0 : mem.2.2 4 = _ := h
  have kh := x_Tp_hasKey d hT hL
  rw [if_neg hn] at kh
  have t5 := hT.1
  refine ⟨e_LT_out, rfl, Nat.le_of_ble_eq_true rfl, ?_⟩
  repeat (first | refine ev_go rfl (by rfl) ?_ | refine ev_gf rfl (by assumption) (by rfl) (by rfl) ?_)
  refine ev_cv (as := []) rfl rfl rfl (by assumption) (by rfl) (by rfl) (kh) ?_
  repeat (first | refine ev_go rfl (by rfl) ?_ | refine ev_gf rfl (by assumption) (by rfl) (by rfl) ?_)
  exact j_ev.throw rfl (by omega)
theorem x_LT_putT (d : Nat) (hd : 6 ≤ d) {x y : Int32} (h : LT mem sh lv) (hT : Ta mem L b) (hL : L ≤ 60) (hn : ¬ (1 ≤ L ∧ L ≤ 40) ∨ x < 0 ∨ y < 0 ∨ 1000 < y) : j_ex tb (d + 2) m_LT_put [.ref 4, .int x, .int y] mem (.inr (0, mem.1)) (thr mem) := by
  have l0 : mem.2.2 4 = _ := h
  have kh := x_Tp_hasKey d hT hL
  have t5 := hT.1
  refine ⟨e_LT_put, rfl, Nat.le_of_ble_eq_true rfl, ?_⟩
  repeat (first | refine ev_go rfl (by rfl) ?_ | refine ev_gf rfl (by assumption) (by rfl) (by rfl) ?_)
  by_cases c1 : x < 0
  · refine ev_ifT rfl (decide_eq_true c1) ?_
    exact j_ev.throw rfl (by omega)
  · refine ev_ifF rfl (decide_eq_false c1) ?_
    repeat (first | refine ev_go rfl (by rfl) ?_ | refine ev_gf rfl (by assumption) (by rfl) (by rfl) ?_)
    by_cases c2 : y < 0
    · refine ev_ifT rfl (decide_eq_true c2) ?_
      exact j_ev.throw rfl (by omega)
    · refine ev_ifF rfl (decide_eq_false c2) ?_
      repeat (first | refine ev_go rfl (by rfl) ?_ | refine ev_gf rfl (by assumption) (by rfl) (by rfl) ?_)
      by_cases c3 : 1000 < y
      · refine ev_icT rfl (decide_eq_true c3) ?_
        exact j_ev.throw rfl (by omega)
      · refine ev_icF rfl (decide_eq_false c3) ?_
        have hn : ¬ (1 ≤ L ∧ L ≤ 40) := by
          rcases hn with q | q | q | q
          · exact q
          · exact absurd q c1
          · exact absurd q c2
          · exact absurd q c3
        rw [if_neg hn] at kh
        repeat (first | refine ev_go rfl (by rfl) ?_ | refine ev_gf rfl (by assumption) (by rfl) (by rfl) ?_)
        refine ev_cv (as := []) rfl rfl rfl (by assumption) (by rfl) (by rfl) (kh) ?_
        repeat (first | refine ev_go rfl (by rfl) ?_ | refine ev_gf rfl (by assumption) (by rfl) (by rfl) ?_)
        exact j_ev.throw rfl (by omega)
end PUT
