/-! LEVEL: isSound; LEVELTABLES: isSound, check (own text) -/
section CHECK
variable {mem mem' : j_M} {G : Nat → Nat → Int64} {P : Nat} {s : Nat → Option Nat} {sh lv : Int32} {mm : List Nat} {R : Nat → Int64} {E C : Nat → Nat} {LV : Nat → List TG} {B : Nat → Option Nat} {Wn T U U' : Nat → Int32} {D : Nat → Nat → Int64} {J Q k : Nat}
theorem ubs_tk (l : List TG) {t : Nat} (h : t < l.length) : ubs (l.take (t + 1)) = ubs (l.take t) ++ (l[t]).1.2.2.1 := by
  rw [List.take_add_one, ubs_app, List.getElem?_eq_getElem h]
  simp [ubs]
theorem x_Lv_sound (d : Nat) (hp : Pu G P mm LV) (hb : Bs mem G mm R E C LV B Wn T U D) (hV : Vs mem) (hk : k < 4) (hDj : (ubs (LV k)).Nodup) (hT : ∀ b ∈ ubs (LV k), b < 1000 ∧ T b = 1 ∧ U b = 0) :
    ∃ mem' U', j_ex tb (d + 8) m_Lv_isSound [.ref (32 + 4 * k), .ref 26, .ref 28] mem (.inl (some (.int 1))) mem' ∧ Kf mem mem' ∧ mem'.2.2 13 = some (.inl (0, 1000, .inl U')) ∧ Vs mem' ∧ ∀ b, b ∉ ubs (LV k) → U' b = U b := by
  have hc := (hb.2.2.2.1 k hk).2.2.1
  have hcl := Al_len (hb.2.2.2.1 k hk).1.2.2.1
  rw [lfs_len] at hcl
  have loop : ∀ (g t : Nat) (m1 : j_M) (U1 : Nat → Int32) (x4 : Option Value), t + g = (LV k).length → Kf mem m1 → m1.2.2 13 = some (.inl (0, 1000, .inl U1)) → Vs m1 → (∀ b, b ∉ ubs ((LV k).take t) → U1 b = U b) → (∀ t', t = t' + 1 → ∃ fl, Ve m1 26 27 fl ∧ ∀ ht : t' < (LV k).length, sw fl (G (((LV k)[t']).2.getD (((LV k)[t']).2.length - 1) 0))) →
      ∃ mem' U', j_ev (d + 8) (j_ex tb (d + 7)) (j_tab q_Lv_isSound) [] (.inl (some (.int 1))) (mem') 2 [some (.ref (32 + 4 * k)), some (.ref 26), some (.ref 28), some (.int (nI t)), x4] [] m1 ∧ Kf mem mem' ∧ mem'.2.2 13 = some (.inl (0, 1000, .inl U')) ∧ Vs mem' ∧ ∀ b, b ∉ ubs (LV k) → U' b = U b := by
    intro g
    induction g with
    | zero =>
      intro t m1 U1 x4 ht g1 g2 g3 g4 g5
      have ht : t = (LV k).length := by omega
      subst ht
      have hb1 := Bs_kf hb g1 g2
      have hoL := (hb1.2.2.2.1 k hk).1.1
      have hAl := (hb1.2.2.2.1 k hk).1.2.2.1
      have ks := x_ALs (d + 6) hAl
      rw [lfs_len] at ks
      obtain ⟨md, Ef, q1, q2, q3, q4⟩ := hAl
      rw [List.take_length] at g4
      refine ⟨m1, U1, ?_, g1, g2, g3, g4⟩
      repeat (first | refine ev_go rfl (by rfl) ?_ | refine ev_gf rfl (by assumption) (by rfl) (by rfl) ?_)
      refine ev_cv (as := []) rfl rfl rfl (by assumption) (by rfl) (by rfl) (ks) ?_
      refine ev_icT rfl (by exact b_le (a := (LV k).length) (b := (LV k).length) (by omega) (by omega) (by omega)) ?_
      repeat (first | refine ev_go rfl (by rfl) ?_ | refine ev_gf rfl (by assumption) (by rfl) (by rfl) ?_)
      exact j_ev.ret rfl
    | succ g ih =>
      intro t m1 U1 x4 ht g1 g2 g3 g4 g5
      have htl : t < (LV k).length := by omega
      have hb1 := Bs_kf hb g1 g2
      have hoL := (hb1.2.2.2.1 k hk).1.1
      have hAl := (hb1.2.2.2.1 k hk).1.2.2.1
      have ks := x_ALs (d + 6) hAl
      have kg := x_ALg (d + 4) (j := t) hAl (by rw [lfs_len]; exact htl) hc
      rw [lfs_len] at ks
      rw [lfsD _ htl] at kg
      have htb : TbX m1 ((LV k)[t]).1 (stl (lms (LV k)) t) := by
        have := (hb1.2.2.2.1 k hk).1.2.2.2 t (by rw [lfs_len]; exact htl)
        rw [lfsD _ htl, sta_stl _ (fun τ hτ => (hb1.2.2.2.2.2.2 k hk τ hτ).2.1)] at this
        exact this
      have hr := (hb1.2.2.2.1 k hk).2.1.2 ((LV k)[t]).1 (List.mem_map.mpr ⟨_, List.getElem_mem htl, rfl⟩)
      obtain ⟨⟨w1, w2, w3⟩, t2, t3, t4⟩ := hb1.2.2.2.2.2.2 k hk (LV k)[t] (List.getElem_mem htl)
      have hn20 : ((LV k)[t]).1.2.2.2.1 < 2 ^ 20 := by
        have h4 := (hb.2.2.2.1 k hk).2.2.2
        rw [sta_all (fun τ hτ => (hb.2.2.2.2.2.2 k hk τ hτ).2.1)] at h4
        have h5 : ((LV k)[t]).2.length ≤ (lms (LV k)).flatten.length := (List.sublist_flatten_of_mem (List.mem_map.mpr ⟨_, List.getElem_mem htl, rfl⟩)).length_le
        omega
      have hsub : ∀ b ∈ ((LV k)[t]).1.2.2.1, b ∈ ubs (LV k) := fun b hb => mem_ubs (List.getElem_mem htl) hb
      have hcutN : (ubs ((LV k).take t) ++ ((LV k)[t]).1.2.2.1).Nodup := by
        rw [← ubs_tk _ htl]
        have : ubs (LV k) = ubs ((LV k).take (t + 1)) ++ ubs ((LV k).drop (t + 1)) := by rw [← ubs_app, List.take_append_drop]
        rw [this] at hDj
        exact (List.nodup_append.mp hDj).1
      have hnd := List.nodup_append.mp hcutN
      have ku := x_Tb_uses (d + 5) htb hb1.2.2.2.2.1 (by omega) w1 (by omega) w2 (fun b hb => by
        have h1 := hT b (hsub b hb)
        refine ⟨h1.1, h1.2.1, ?_⟩
        rw [g4 b (fun q => hnd.2.2 b q b hb rfl)]
        exact h1.2.2) hnd.2.1
      generalize hU2 : mk U1 ((LV k)[t]).1.2.2.1 1 = U2 at ku
      have u2p : ∀ b, b ∉ ubs ((LV k).take (t + 1)) → U2 b = U b := fun b hb => by
        rw [ubs_tk _ htl] at hb
        rw [← hU2]
        unfold mk
        rw [if_neg (fun q => hb (List.mem_append_right _ q))]
        exact g4 b (fun q => hb (List.mem_append_left _ q))
      generalize hm2 : j_set m1 13 (.inl (0, 1000, .inl U2)) = m2 at ku
      have kf2 : Kf m1 m2 := by rw [← hm2]; exact Kf_set _ _ (by omega)
      have c13 : m2.2.2 13 = some (.inl (0, 1000, .inl U2)) := by rw [← hm2]; exact st_same _ _ _
      have vs2 : Vs m2 := by
        rw [← hm2]
        exact Vs_fr g3 (fun c c1 c2 => st_ne _ _ (by omega))
      have kf02 := Kf_trans g1 kf2
      have hb2 := Bs_kf hb kf02 c13
      have hoL2 := (hb2.2.2.2.1 k hk).1.1
      have htb2 : TbX m2 ((LV k)[t]).1 (stl (lms (LV k)) t) := TbX_fr htb (kf2.2.2 _ (by omega) (by omega) (by omega)) (kf2.2.2 _ (by omega) (by omega) (by omega))
      have kst := x_Tb_start (d + 6) htb2
      have o1 := htb.1
      have o2 := htb2.1
      obtain ⟨md, Ef, q1, q2, q3, q4⟩ := hAl
      have c9 : m1.2.2 9 = _ := hb1.2.2.2.2.1.1
      have hne : ((LV k)[t]).2 ≠ [] := (hp.2.2.2 k hk).2 _ (List.mem_map.mpr ⟨_, List.getElem_mem htl, rfl⟩)
      have hpos : 0 < ((LV k)[t]).2.length := List.length_pos_iff.mpr hne
      rcases Nat.eq_zero_or_pos t with c | c
      · subst c
        obtain ⟨m3, fl, k3, kf3, z13, vs3, ve3, sw3⟩ := x_Lv_whole (d + 1) hp hb2 vs2 hk htl
        obtain ⟨mem', U', z1, z2⟩ := ih 1 m3 U2 (some (.ref ((LV k)[0]).1.1)) (by omega) (Kf_trans kf02 kf3) (z13.trans c13) vs3 u2p (fun t' e => by
          have e : t' = 0 := by omega
          subst e
          exact ⟨fl, ve3, fun _ => sw3⟩)
        refine ⟨mem', U', ?_, z2⟩
        repeat (first | refine ev_go rfl (by rfl) ?_ | refine ev_gf rfl (by assumption) (by rfl) (by rfl) ?_)
        refine ev_cv (as := []) rfl rfl rfl (by assumption) (by rfl) (by rfl) (ks) ?_
        refine ev_icF rfl (by exact b_nle (a := (LV k).length) (b := 0) (by omega) (by omega) (by omega)) ?_
        repeat (first | refine ev_go rfl (by rfl) ?_ | refine ev_gf rfl (by assumption) (by rfl) (by rfl) ?_)
        refine ev_cv (as := [.int (nI 0)]) rfl rfl rfl (by assumption) (by rfl) (by rfl) (kg) ?_
        refine ev_cco rfl (by assumption) (by rfl) ?_
        repeat (first | refine ev_go rfl (by rfl) ?_ | refine ev_gf rfl (by assumption) (by rfl) (by rfl) ?_)
        refine ev_cv (as := [.ref 9]) rfl rfl rfl (by assumption) (by rfl) (by rfl) (ku) ?_
        repeat (first | refine ev_go rfl (by rfl) ?_ | refine ev_gf rfl (by assumption) (by rfl) (by rfl) ?_)
        refine ev_cv (as := [.ref ((LV k)[0]).1.1, .ref 26, .ref 28]) rfl rfl rfl (by assumption) (by rfl) (by rfl) (k3) ?_
        repeat (first | exact z1 | refine ev_go rfl (by rfl) ?_ | refine ev_gf rfl (by assumption) (by rfl) (by rfl) ?_)
      · obtain ⟨t', rfl⟩ : ∃ t', t = t' + 1 := ⟨t - 1, by omega⟩
        obtain ⟨fl0, e1, e2⟩ := g5 t' rfl
        have e2 := e2 (by omega)
        obtain ⟨f', s1, k1, v1, ve1⟩ := sd_load (d + 2) (i := 0) hb2 vs2 hk htl hpos
        rw [Nat.add_zero] at k1
        have hne' : ((LV k)[t']).2 ≠ [] := (hp.2.2.2 k hk).2 _ (List.mem_map.mpr ⟨_, List.getElem_mem (by omega), rfl⟩)
        have hpos' : 0 < ((LV k)[t']).2.length := List.length_pos_iff.mpr hne'
        have hkey : v_key fl0 < v_key f' := by
          rw [sw_key e2, sw_key s1]
          have hpw := List.pairwise_iff_getElem.mp (hp.2.2.2 k hk).1 t' (t' + 1) (by rw [lms_len]; omega) (by rw [lms_len]; omega) (by omega)
          have a1 : (lms (LV k))[t']'(by rw [lms_len]; omega) = ((LV k)[t']).2 := by simp [lms]
          have a2 : (lms (LV k))[t' + 1]'(by rw [lms_len]; omega) = ((LV k)[t' + 1]).2 := by simp [lms]
          rw [a1, a2] at hpw
          exact hpw _ (getD_mem (by omega)) _ (getD_mem hpos)
        have kf3 : Kf m2 (j_set m2 29 (vW f')) := Kf_set _ _ (by omega)
        have e13 : (j_set m2 29 (vW f')).2.2 13 = some (.inl (0, 1000, .inl U2)) := by rw [st_ne _ _ (by omega)]; exact c13
        have ve0 : Ve (j_set m2 29 (vW f')) 26 27 fl0 := by
          refine ⟨?_, ?_⟩
          · rw [st_ne _ _ (by omega), ← hm2, st_ne _ _ (by omega)]; exact e1.1
          · rw [st_ne _ _ (by omega), ← hm2, st_ne _ _ (by omega)]; exact e1.2
        obtain ⟨r, kr, kr1, kr2⟩ := x_Ve_compareKey (d + 5) ve0 ve1
        have hrneg : r < 0 := kr1.mpr hkey
        generalize hm3 : j_set m2 29 (vW f') = m3 at *
        have hb3 := Bs_kf hb (Kf_trans kf02 kf3) e13
        have hoL3 := (hb3.2.2.2.1 k hk).1.1
        obtain ⟨m4, fl, k3, kf4, z13, vs4, ve4, sw4⟩ := x_Lv_whole (d + 1) hp hb3 v1 hk htl
        obtain ⟨mem', U', z1, z2⟩ := ih (t' + 1 + 1) m4 U2 (some (.ref ((LV k)[t' + 1]).1.1)) (by omega) (Kf_trans kf02 (Kf_trans kf3 kf4)) (z13.trans e13) vs4 u2p (fun t'' e => by
          have e : t'' = t' + 1 := by omega
          subst e
          exact ⟨fl, ve4, fun _ => sw4⟩)
        refine ⟨mem', U', ?_, z2⟩
        have v26 := ve0.1
        rw [← nI_1 (t' + 1)] at z1
        repeat (first | refine ev_go rfl (by rfl) ?_ | refine ev_gf rfl (by assumption) (by rfl) (by rfl) ?_)
        refine ev_cv (as := []) rfl rfl rfl (by assumption) (by rfl) (by rfl) (ks) ?_
        refine ev_icF rfl (by exact b_nle (a := (LV k).length) (b := t' + 1) (by omega) (by omega) (by omega)) ?_
        repeat (first | refine ev_go rfl (by rfl) ?_ | refine ev_gf rfl (by assumption) (by rfl) (by rfl) ?_)
        refine ev_cv (as := [.int (nI (t' + 1))]) rfl rfl rfl (by assumption) (by rfl) (by rfl) (kg) ?_
        refine ev_cco rfl (by assumption) (by rfl) ?_
        repeat (first | refine ev_go rfl (by rfl) ?_ | refine ev_gf rfl (by assumption) (by rfl) (by rfl) ?_)
        refine ev_cv (as := [.ref 9]) rfl rfl rfl (by assumption) (by rfl) (by rfl) (ku) ?_
        repeat (first | refine ev_go rfl (by rfl) ?_ | refine ev_gf rfl (by assumption) (by rfl) (by rfl) ?_)
        refine ev_ifF rfl (by exact b_nle (a := t' + 1) (b := 0) (by omega) (by omega) (by omega)) ?_
        repeat (first | refine ev_go rfl (by rfl) ?_ | refine ev_gf rfl (by assumption) (by rfl) (by rfl) ?_)
        refine ev_cv (as := []) rfl rfl rfl (by assumption) (by rfl) (by rfl) (kst) ?_
        repeat (first | refine ev_go rfl (by rfl) ?_ | refine ev_gf rfl (by assumption) (by rfl) (by rfl) ?_)
        refine ev_cv (as := [.int (nI (stl (lms (LV k)) (t' + 1))), .ref 28]) rfl rfl rfl (by assumption) (by rfl) (by rfl) (k1) ?_
        repeat (first | refine ev_go rfl (by rfl) ?_ | refine ev_gf rfl (by assumption) (by rfl) (by rfl) ?_)
        refine ev_cv (as := [.ref 28]) rfl rfl rfl (by assumption) (by rfl) (by rfl) (kr) ?_
        refine ev_ifT rfl (decide_eq_true hrneg) ?_
        repeat (first | refine ev_go rfl (by rfl) ?_ | refine ev_gf rfl (by assumption) (by rfl) (by rfl) ?_)
        refine ev_cv (as := [.ref ((LV k)[t' + 1]).1.1, .ref 26, .ref 28]) rfl rfl rfl (by assumption) (by rfl) (by rfl) (k3) ?_
        repeat (first | exact z1 | refine ev_go rfl (by rfl) ?_ | refine ev_gf rfl (by assumption) (by rfl) (by rfl) ?_)
  obtain ⟨mem', U', z1, z2⟩ := loop (LV k).length 0 mem U none (by omega) (Kf_refl _) hb.2.2.2.2.1.2.2.2.2 hV (fun _ _ => rfl) (fun t' e => by omega)
  refine ⟨mem', U', ?_, z2⟩
  refine ⟨e_Lv_isSound, rfl, Nat.le_of_ble_eq_true rfl, ?_⟩
  repeat (first | exact z1 | refine ev_go rfl (by rfl) ?_ | refine ev_gf rfl (by assumption) (by rfl) (by rfl) ?_)
theorem Sy_kf (h : Sy mem G P s sh lv mm LV J Q) (hf : Kf mem mem') (hU : ∃ U', mem'.2.2 13 = some (.inl (0, 1000, .inl U'))) (hV : Vs mem') : Sy mem' G P s sh lv mm LV J Q := by
  obtain ⟨R, E, C, B, Wn, T, U, D, e, cap, ⟨a1, a2, ⟨Hr, r1, r2⟩, ⟨Hl, l1, l2⟩, a5, a6⟩, h2, ⟨⟨p1, p2, bf, p3, p4⟩, ⟨xs, md, Ef, q1, q2, q3, q4⟩, h5⟩, h6, h7, h12, h13, h14⟩ := h
  obtain ⟨U', hU⟩ := hU
  have f : ∀ c, c ≠ 13 ∧ c ≠ 27 ∧ c ≠ 29 → mem'.2.2 c = mem.2.2 c := fun c hc => hf.2.2 c hc.1 hc.2.1 hc.2.2
  have e2 : e = 2 ∨ 78 ≤ e := by
    by_cases c : cap = 0
    · exact Or.inl (h5.1 c)
    · exact Or.inr (h5.2 c).1
  refine ⟨R, E, C, B, Wn, T, U', D, e, cap, ⟨(f 4 (by omega)).trans a1, ⟨(f 7 (by omega)).trans a2.1, (f 8 (by omega)).trans a2.2⟩, ⟨Hr, (f 19 (by omega)).trans r1, r2⟩, ⟨Hl, (f 18 (by omega)).trans l1, l2⟩, hV, Wz_fr a6 (fun c c1 c2 => f c (by omega)) (f 19 (by omega))⟩, Bs_kf h2 hf hU, ⟨⟨(f 66 (by omega)).trans p1, p2, bf, (f 68 (by omega)).trans p3, p4⟩, ⟨xs, md, Ef, (f 67 (by omega)).trans q1, (f e (by omega)).trans q2, q3, q4⟩, ⟨h5.1, by rw [hf.1]; exact h5.2⟩⟩, h6, h7, by rw [hf.1]; exact h12, h13, ?_⟩
  unfold Rm at h14 ⊢
  rw [hf.1, hf.2.1]
  exact h14
theorem Ox_kf (h : Kf mem mem') : Ox mem mem' := fun c hc => h.2.2 c (by omega) (by omega) (by omega)
theorem x_LT_sound (d : Nat) (h : Sy mem G P s sh lv mm LV J Q) (hp : Pu G P mm LV) : ∃ mem', j_ex tb (d + 9) m_LT_isSound [.ref 4] mem (.inl (some (.int 1))) mem' ∧ Sy mem' G P s sh lv mm LV J Q ∧ Ox mem mem' := by
  obtain ⟨R, E, C, B, Wn, T, U, D, e, cap, ⟨a1, a2, a3, ⟨Hl, v1, v2⟩, a5, a6⟩, hb, -, -, ⟨h7, h8, h9, -⟩, -⟩ := id h
  have kf := x_Ch_forgetUses (d + 6) hb.2.2.2.2.1
  have hU0 : ∀ b, b < 1000 → flI U 1000 0 b = 0 := fun b hb => by
    unfold flI
    rw [if_pos hb]
  generalize flI U 1000 0 = U0 at kf hU0
  generalize hm0 : j_set mem 13 (.inl (0, 1000, .inl U0)) = m0 at kf
  have kf0 : Kf mem m0 := by rw [← hm0]; exact Kf_set _ _ (by omega)
  have c0 : m0.2.2 13 = some (.inl (0, 1000, .inl U0)) := by rw [← hm0]; exact st_same _ _ _
  have vs0 : Vs m0 := by
    rw [← hm0]
    exact Vs_fr a5 (fun c c1 c2 => st_ne _ _ (by omega))
  have tk : ∀ k, k < 4 → ∀ b ∈ ubs (LV k), b < 1000 ∧ T b = 1 := fun k hk b hb => h9.1 k (by omega) b hb
  have b0 := Bs_kf hb kf0 c0
  obtain ⟨m1, U1, k1, kf1, c1, vs1, u1⟩ := x_Lv_sound d hp b0 vs0 (show 0 < 4 by omega) (h8.1 0 (by omega)) (fun b hb => ⟨(tk 0 (by omega) b hb).1, (tk 0 (by omega) b hb).2, hU0 b (tk 0 (by omega) b hb).1⟩)
  have kf01 := Kf_trans kf0 kf1
  have b1 := Bs_kf hb kf01 c1
  obtain ⟨m2, U2, k2, kf2, c2, vs2, u2⟩ := x_Lv_sound d hp b1 vs1 (show 1 < 4 by omega) (h8.1 1 (by omega)) (fun b hb => ⟨(tk 1 (by omega) b hb).1, (tk 1 (by omega) b hb).2, by
    rw [u1 b (h8.2 1 0 (by omega) (by omega) (by omega) b hb)]
    exact hU0 b (tk 1 (by omega) b hb).1⟩)
  have kf02 := Kf_trans kf01 kf2
  have b2 := Bs_kf hb kf02 c2
  obtain ⟨m3, U3, k3, kf3, c3, vs3, u3⟩ := x_Lv_sound d hp b2 vs2 (show 2 < 4 by omega) (h8.1 2 (by omega)) (fun b hb => ⟨(tk 2 (by omega) b hb).1, (tk 2 (by omega) b hb).2, by
    rw [u2 b (h8.2 2 1 (by omega) (by omega) (by omega) b hb), u1 b (h8.2 2 0 (by omega) (by omega) (by omega) b hb)]
    exact hU0 b (tk 2 (by omega) b hb).1⟩)
  have kf03 := Kf_trans kf02 kf3
  have b3 := Bs_kf hb kf03 c3
  obtain ⟨m4, U4, k4, kf4, c4, vs4, u4⟩ := x_Lv_sound d hp b3 vs3 (show 3 < 4 by omega) (h8.1 3 (by omega)) (fun b hb => ⟨(tk 3 (by omega) b hb).1, (tk 3 (by omega) b hb).2, by
    rw [u3 b (h8.2 3 2 (by omega) (by omega) (by omega) b hb), u2 b (h8.2 3 1 (by omega) (by omega) (by omega) b hb), u1 b (h8.2 3 0 (by omega) (by omega) (by omega) b hb)]
    exact hU0 b (tk 3 (by omega) b hb).1⟩)
  have kf04 := Kf_trans kf03 kf4
  have b4 := Bs_kf hb kf04 c4
  have km := x_Ch_isMisused (d + 7) b4.2.2.2.2.1
  refine ⟨m4, ?_, Sy_kf h kf04 ⟨U4, c4⟩ vs4, Ox_kf kf04⟩
  have l : mem.2.2 4 = _ := a1
  have f : ∀ {m : j_M}, Kf mem m → m.2.2 4 = some (ltC sh lv) ∧ m.2.2 18 = some (.inl (5, 4, .inr (.inr (.inr (.inr Hl))))) := fun hf => ⟨(hf.2.2 4 (by omega) (by omega) (by omega)).trans a1, (hf.2.2 18 (by omega) (by omega) (by omega)).trans v1⟩
  obtain ⟨l0, y0⟩ := f kf0
  obtain ⟨l1, y1⟩ := f kf01
  obtain ⟨l2, y2⟩ := f kf02
  obtain ⟨l3, y3⟩ := f kf03
  obtain ⟨l4, y4⟩ := f kf04
  unfold ltC at l0 l1 l2 l3 l4
  have o0 := (b0.2.2.2.1 0 (by omega)).1.1
  have o1 := (b1.2.2.2.1 1 (by omega)).1.1
  have o2 := (b2.2.2.2.1 2 (by omega)).1.1
  have o3 := (b3.2.2.2.1 3 (by omega)).1.1
  have d9 : mem.2.2 9 = _ := hb.2.2.2.2.1.1
  have d94 : m4.2.2 9 = _ := b4.2.2.2.2.1.1
  refine ⟨e_LT_isSound, rfl, Nat.le_of_ble_eq_true rfl, ?_⟩
  repeat (first | refine ev_go rfl (by rfl) ?_ | refine ev_gf rfl (by assumption) (by rfl) (by rfl) ?_)
  refine ev_cv (as := []) rfl rfl rfl (by assumption) (by rfl) (by rfl) (kf) ?_
  repeat (first | refine ev_go rfl (by rfl) ?_ | refine ev_gf rfl (by assumption) (by rfl) (by rfl) ?_)
  refine ev_alqN (i := 0) rfl (by assumption) (by rfl) (by omega) (by omega) ?_
  rw [v2 0 (by omega)]
  repeat (first | refine ev_go rfl (by rfl) ?_ | refine ev_gf rfl (by assumption) (by rfl) (by rfl) ?_)
  refine ev_cv (as := [.ref 26, .ref 28]) rfl rfl rfl (by assumption) (by rfl) (by rfl) (k1) ?_
  repeat (first | refine ev_go rfl (by rfl) ?_ | refine ev_gf rfl (by assumption) (by rfl) (by rfl) ?_)
  refine ev_alqN (i := 1) rfl (by assumption) (by rfl) (by omega) (by omega) ?_
  rw [v2 1 (by omega)]
  repeat (first | refine ev_go rfl (by rfl) ?_ | refine ev_gf rfl (by assumption) (by rfl) (by rfl) ?_)
  refine ev_cv (as := [.ref 26, .ref 28]) rfl rfl rfl (by assumption) (by rfl) (by rfl) (k2) ?_
  repeat (first | refine ev_go rfl (by rfl) ?_ | refine ev_gf rfl (by assumption) (by rfl) (by rfl) ?_)
  refine ev_alqN (i := 2) rfl (by assumption) (by rfl) (by omega) (by omega) ?_
  rw [v2 2 (by omega)]
  repeat (first | refine ev_go rfl (by rfl) ?_ | refine ev_gf rfl (by assumption) (by rfl) (by rfl) ?_)
  refine ev_cv (as := [.ref 26, .ref 28]) rfl rfl rfl (by assumption) (by rfl) (by rfl) (k3) ?_
  repeat (first | refine ev_go rfl (by rfl) ?_ | refine ev_gf rfl (by assumption) (by rfl) (by rfl) ?_)
  refine ev_alqN (i := 3) rfl (by assumption) (by rfl) (by omega) (by omega) ?_
  rw [v2 3 (by omega)]
  repeat (first | refine ev_go rfl (by rfl) ?_ | refine ev_gf rfl (by assumption) (by rfl) (by rfl) ?_)
  refine ev_cv (as := [.ref 26, .ref 28]) rfl rfl rfl (by assumption) (by rfl) (by rfl) (k4) ?_
  repeat (first | refine ev_go rfl (by rfl) ?_ | refine ev_gf rfl (by assumption) (by rfl) (by rfl) ?_)
  refine ev_cv (as := []) rfl rfl rfl (by assumption) (by rfl) (by rfl) (km) ?_
  repeat (first | refine ev_go rfl (by rfl) ?_ | refine ev_gf rfl (by assumption) (by rfl) (by rfl) ?_)
  exact j_ev.ret rfl
theorem x_LT_check (d : Nat) (hP : P ≤ 500) (h : Sy mem G P s sh lv mm LV J Q) (hp : Pu G P mm LV) (hv : ∀ t, sst (gK G) (gT G) (mem5 (rms mm LV)) P t ↔ hst (gK G) (gT G) P t) :
    ∃ mo, j_ex tb (d + 11) m_LT_check [.ref 4] mem (.inl (some (.int (nI (hcn (gK G) (gT G) P))))) mo ∧ Sy mo G P s sh lv mm LV J Q ∧ Ox mem mo := by
  obtain ⟨m1, k1, s1, o1⟩ := x_LT_sound (d + 1) h hp
  obtain ⟨m2, k2, s2, o2⟩ := x_LT_count d hP s1 hp hv
  refine ⟨m2, ?_, s2, Ox_trans o1 (Ox_sf o2)⟩
  have l4 := Sy_lt h
  have l41 := Sy_lt s1
  refine ⟨e_LT_check, rfl, Nat.le_of_ble_eq_true rfl, ?_⟩
  repeat (first | refine ev_go rfl (by rfl) ?_ | refine ev_gf rfl (by assumption) (by rfl) (by rfl) ?_)
  refine ev_cv (as := []) rfl rfl rfl (by assumption) (by rfl) (by rfl) (k1) ?_
  repeat (first | refine ev_go rfl (by rfl) ?_ | refine ev_gf rfl (by assumption) (by rfl) (by rfl) ?_)
  refine ev_cv (as := []) rfl rfl rfl (by assumption) (by rfl) (by rfl) (k2) ?_
  repeat (first | refine ev_go rfl (by rfl) ?_ | refine ev_gf rfl (by assumption) (by rfl) (by rfl) ?_)
  exact j_ev.ret rfl
end CHECK
