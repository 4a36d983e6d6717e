/-! THE LAW: put, out (own text) -/
theorem tg_cg {b b' : Nat → Int32} {L : Nat} (h : ∀ j, j < L → b j = b' j) : tg b L = tg b' L := by
  funext j
  unfold tg
  by_cases c : j < L
  · rw [if_pos c, if_pos c, h j c]
  · rw [if_neg c, if_neg c]
theorem ky_cg {b b' : Nat → Int32} {L : Nat} (h : ∀ j, j < L → b j = b' j) : ky b L = ky b' L := by
  unfold ky
  rw [tg_cg h]
theorem lvd_eq (lv : Int32) {th bef : Nat} (h1 : th ≤ 1) (h2 : bef ≤ 1) : lv + (nI th - nI bef) = lvd lv th bef := by
  have a : th = 0 ∨ th = 1 := by omega
  have c : bef = 0 ∨ bef = 1 := by omega
  have z : lv + 0 = lv := by
    apply Int32.toBitVec_inj.mp
    exact BitVec.add_zero _
  rcases a with rfl | rfl <;> rcases c with rfl | rfl
  · rw [show nI 0 - nI 0 = (0 : Int32) by decide, z]
    rfl
  · rw [show nI 0 - nI 1 = (-1 : Int32) by decide]
    rfl
  · rw [show nI 1 - nI 0 = (1 : Int32) by decide]
    rfl
  · rw [show nI 1 - nI 1 = (0 : Int32) by decide, z]
    rfl
theorem lvd_n {h h' th bef : Nat} (h1 : th ≤ 1) (h2 : bef ≤ 1) (e : h' + bef = h + th) : lvd (nI h) th bef = nI h' := by
  have a : th = 0 ∨ th = 1 := by omega
  have c : bef = 0 ∨ bef = 1 := by omega
  unfold lvd
  rcases a with rfl | rfl <;> rcases c with rfl | rfl
  · rw [if_pos rfl, show h' = h by omega]
  · rw [if_neg (by omega), if_pos rfl, w_m1]
    obtain ⟨k, rfl⟩ : ∃ k, h = k + 1 := ⟨h - 1, by omega⟩
    rw [nI_pred, show h' = k by omega]
  · rw [if_neg (by omega), if_neg (by omega), nI_1, show h' = h + 1 by omega]
  · rw [if_pos rfl, show h' = h by omega]
section OPS4
variable {Ls : Nat} {xs : Nat → Int32} {mem : j_M} {n : Nat} {G : Nat → Nat → Int64} {P : Nat} {s : Nat → Option Nat} {sh lv at' : Int32} {mm mm' : List Nat} {LV : Nat → List TG} {J Q L th bef : Nat} {b bm : Nat → Int32} {y : Nat} {g : Nat → Int64}
theorem up_K {t : Nat} (h : t ≤ P) : gK (va_up G (P + 1) g) t = gK G t ∧ gT (va_up G (P + 1) g) t = gT G t := by
  unfold gK gT
  rw [va_up_ne _ _ (by omega)]
  exact ⟨rfl, rfl⟩
theorem add_pz (h : Pz n G P s sh lv mm LV J Q L b bm at' y) (hL : 1 ≤ L ∧ L ≤ 40) (hth : th ≤ 1) (hpu : Pu (va_up G (P + 1) g) (P + 1) mm' LV) (hS : ∀ t, mem5 (rms mm' LV) t ↔ mem5 (rms mm LV) t ∨ t = P + 1) (hlen : mm'.length = mm.length + 1) (hg : v_key g = ky b L ∧ v_th g = th)
    (hbef : (bef = 1 ∧ ∃ x, sst (gK G) (gT G) (mem5 (rms mm LV)) P x ∧ gK G x = ky b L) ∨ (bef = 0 ∧ ¬ ∃ x, sst (gK G) (gT G) (mem5 (rms mm LV)) P x ∧ gK G x = ky b L)) :
    Pz (n + 1) (va_up G (P + 1) g) (P + 1) s sh (lvd lv th bef) mm' LV J Q 0 b bm at' y := by
  obtain ⟨a1, a2, a3, a4, a5, a6, a7, a8, a9, a10, a11⟩ := h
  have hS0 : ∀ t, mem5 (rms mm LV) t → 1 ≤ t ∧ t ≤ P := fun t ⟨r, h1, h2⟩ => ⟨(a1.2.1.2.1 r h1 t h2).1, a1.2.2.1 r h1 t h2⟩
  have hK : ∀ i, 1 ≤ i → i ≤ P → gK (va_up G (P + 1) g) i = gK G i ∧ gT (va_up G (P + 1) g) i = gT G i := fun i _ hi => up_K hi
  have hKn : gK (va_up G (P + 1) g) (P + 1) = ky b L ∧ gT (va_up G (P + 1) g) (P + 1) = th := by
    unfold gK gT
    rw [va_up_self]
    exact hg
  have vP : ∀ t, sst (gK (va_up G (P + 1) g)) (gT (va_up G (P + 1) g)) (mem5 (rms mm LV)) P t ↔ hst (gK (va_up G (P + 1) g)) (gT (va_up G (P + 1) g)) P t := fun t => by
    rw [sst_cg hS0 hK, hst_cg hK]
    exact a2 P (Or.inl rfl) t
  have hb1 : bef ≤ 1 := by rcases hbef with q | q <;> omega
  refine ⟨hpu, fun m hm t => ?_, by omega, fun j hj => by omega, a5, fun i m hi => by have := a6 i m hi; omega, ?_, ?_, ?_, ?_, by omega⟩
  · rcases hm with q | ⟨i, i1, i2⟩
    · subst q
      exact put_now hS0 hS vP t
    · have hmP := a6 i m i2
      rw [put_val hS hmP, sst_cg hS0 hK, hst_cg (fun j h1 h2 => hK j h1 (by omega))]
      exact a2 m (Or.inr ⟨i, i1, i2⟩) t
  · rw [a7]
    refine lvd_n hth hb1 ?_
    have := hcn_s (K := gK (va_up G (P + 1) g)) (th := gT (va_up G (P + 1) g)) (P := P) (b := bef) (gT_01 _ _) (by
      have tr : (∃ t, hst (gK (va_up G (P + 1) g)) (gT (va_up G (P + 1) g)) P t ∧ gK (va_up G (P + 1) g) t = gK (va_up G (P + 1) g) (P + 1)) ↔ ∃ x, sst (gK G) (gT G) (mem5 (rms mm LV)) P x ∧ gK G x = ky b L := by
        rw [hKn.1]
        constructor
        · rintro ⟨t, q1, q2⟩
          have q3 := (vP t).mpr q1
          rw [sst_cg hS0 hK] at q3
          exact ⟨t, q3, by rw [← (up_K q1.2.1).1]; exact q2⟩
        · rintro ⟨t, q1, q2⟩
          refine ⟨t, (vP t).mp ((sst_cg hS0 hK).mpr q1), by rw [(up_K q1.2.1).1]; exact q2⟩
      rw [tr]
      exact hbef)
    rw [hKn.2, hcn_cg hK] at this
    exact this
  · rcases a8 with q | ⟨q1, q2, q3, q4⟩
    · exact Or.inl q
    · exact Or.inr ⟨q1, q2, by omega, by rw [(up_K (by omega)).2]; exact q4⟩
  · rw [if_pos rfl]
    rw [if_neg (by omega)] at a9
    omega
  · have e : phi mm' LV = phi mm LV + 4 := by
      unfold phi
      rw [hlen]
      omega
    omega
theorem add_mh {K Ln Pl Sz : Nat → Int32} {x z : Int32} (hh : Mh K Ln Pl Sz G P) (hL : 1 ≤ L ∧ L ≤ 40) (hbm : ∀ j, j < L → b j = bm j) (hg : v_num g = nm (tg b L) 40 ∧ v_len g = L) (h1 : v_th g = 1 → x = nI (v_pl g) ∧ z = nI (v_sz g)) (h0 : v_th g = 0 → z = -1) :
    Mh (cpK K bm (40 * P) L) (upd Ln P (nI L)) (upd Pl P x) (upd Sz P z) (va_up G (P + 1) g) (P + 1) := by
  intro v hv
  by_cases c : v = P
  · subst c
    have e0 : va_up G (v + 1) g (v + 1) = g := va_up_self _ _ _
    have eT : gT (va_up G (v + 1) g) (v + 1) = v_th g := by unfold gT; rw [e0]
    rw [e0, eT, upd_at, upd_at, upd_at, hg.2]
    refine ⟨hL.2, rfl, ?_, h1, h0⟩
    rw [hg.1]
    have : tg b L = tg (fun j => cpK K bm (40 * v) L (40 * v + j)) L := tg_cg (fun j hj => by
      show b j = cpK K bm (40 * v) L (40 * v + j)
      rw [cpK_at, if_pos (by omega), show 40 * v + j - 40 * v = j by omega]
      exact hbm j hj)
    rw [this]
  · obtain ⟨q1, q2, q3, q4, q5⟩ := hh v (by omega)
    have e0 : va_up G (P + 1) g (v + 1) = G (v + 1) := va_up_ne _ _ (by omega)
    have eT : gT (va_up G (P + 1) g) (v + 1) = gT G (v + 1) := by unfold gT; rw [e0]
    rw [e0, eT, upd_nat _ _ c, upd_nat _ _ c, upd_nat _ _ c]
    refine ⟨q1, q2, ?_, q4, q5⟩
    rw [q3]
    have : tg (fun j => K (40 * v + j)) (v_len (G (v + 1))) = tg (fun j => cpK K bm (40 * P) L (40 * v + j)) (v_len (G (v + 1))) := tg_cg (fun j hj => by
      show K (40 * v + j) = cpK K bm (40 * P) L (40 * v + j)
      rw [cpK_at, if_neg (by omega)])
    rw [this]
/-- which of the two sides' 'was there' bits -/
theorem bef_eq {bef' : Nat} {S : Nat → Prop} (hv : ∀ t, sst (gK G) (gT G) S P t ↔ hst (gK G) (gT G) P t) {κ : Nat} (h : (bef = 1 ∧ ∃ x, sst (gK G) (gT G) S P x ∧ gK G x = κ) ∨ (bef = 0 ∧ ¬ ∃ x, sst (gK G) (gT G) S P x ∧ gK G x = κ)) (h' : (bef' = 1 ∧ ∃ x, hst (gK G) (gT G) P x ∧ gK G x = κ) ∨ (bef' = 0 ∧ ¬ ∃ x, hst (gK G) (gT G) P x ∧ gK G x = κ)) : bef' = bef := by
  have e : (∃ x, sst (gK G) (gT G) S P x ∧ gK G x = κ) ↔ ∃ x, hst (gK G) (gT G) P x ∧ gK G x = κ := ⟨fun ⟨x, q1, q2⟩ => ⟨x, (hv x).mp q1, q2⟩, fun ⟨x, q1, q2⟩ => ⟨x, (hv x).mpr q1, q2⟩⟩
  rcases h with ⟨a, c⟩ | ⟨a, c⟩ <;> rcases h' with ⟨a', c'⟩ | ⟨a', c'⟩
  · omega
  · exact absurd (e.mp c) c'
  · exact absurd (e.mpr c') c
  · omega
theorem add_cl {m1 : j_M} (hcl : Cl Ls xs mem G P s sh lv mm LV J Q L b y) (hpz : Pz n G P s sh lv mm LV J Q L b bm at' y) {lv' : Int32} (hsy : Sy m1 (va_up G (P + 1) g) (P + 1) s sh lv' mm' LV J Q) (hta : Ta m1 0 b) (ho : Oy mem m1) : Cl Ls xs m1 (va_up G (P + 1) g) (P + 1) s sh lv' mm' LV J Q 0 b y := by
  obtain ⟨a1, a2, a3, a4, a5⟩ := hcl
  refine ⟨hsy, hta, ?_, (ho 1 (by omega)).trans a4, (ho 0 (by omega)).trans a5⟩
  rcases a3 with q | ⟨q, f, f1, f2⟩
  · exact Or.inl q
  · refine Or.inr ⟨q, f, ⟨(ho 30 (by omega)).trans f1.1, (ho 31 (by omega)).trans f1.2⟩, ?_⟩
    have hy : y < P := by
      rcases hpz.2.2.2.2.2.2.2.1 with ⟨q1, -⟩ | ⟨-, -, q3, -⟩
      · rw [q1] at q
        exact absurd q (by decide)
      · exact q3
    rw [va_up_ne _ _ (by omega)]
    exact f2
theorem op_put (d : Nat) (x z : Int32) (hn : n < 512) (h : Gs Ls xs mem n) : Opr d Ls xs n m_La_put m_Mo_put [.ref 4, .int x, .int z, .ref 77] [.ref 69, .int x, .int z] mem := by
  obtain ⟨G, P, s, sh, lv, mm, LV, J, Q, L, b, bm, at', y, fa, hcl, hmd, h77, hpz⟩ := h
  obtain ⟨R, E, C, B, Wn, T, U, D, hb, hsb⟩ := Sy_bs hcl.1
  have l4 := Sy_lt hcl.1
  have hL60 := hpz.2.2.1
  by_cases c : ¬ (1 ≤ L ∧ L ≤ 40) ∨ x < 0 ∨ z < 0 ∨ 1000 < z
  · have k := x_LT_putT (d + 27) (by omega) hsb.1 hcl.2.1 hL60 c
    exact opR d (kx := 1) (by omega) hcl hmd h77 hpz (wC_put_0 (d + 29) l4 k) (fun mx hx => m_putT (d + 28) hx hL60 c)
  · have hL : 1 ≤ L ∧ L ≤ 40 := by
      by_cases q : 1 ≤ L ∧ L ≤ 40
      · exact q
      · exact absurd (Or.inl q) c
    obtain ⟨pl, rfl, hpl⟩ : ∃ pl, x = nI pl ∧ pl < 2 ^ 31 := (int_c x).resolve_left (fun q => c (Or.inr (Or.inl q)))
    obtain ⟨sz, rfl, hsz'⟩ : ∃ sz, z = nI sz ∧ sz < 2 ^ 31 := (int_c z).resolve_left (fun q => c (Or.inr (Or.inr (Or.inl q))))
    have hsz : sz ≤ 1000 := by
      rcases Nat.lt_or_ge 1000 sz with e | e
      · exact absurd (Or.inr (Or.inr (Or.inr ((nI_ltI (a := 1000) (by omega) hsz').mpr e)))) c
      · exact e
    have hP : P < 256 := by
      have := hpz.2.2.2.2.2.2.2.2.1
      rw [if_neg (by omega)] at this
      omega
    obtain ⟨m1, g, mm', bef, k1, k2, k3, k4, k5, k6, ⟨g1, g2, g3, g4, g5, g6⟩, k8, k9⟩ := x_LT_put (d + 18) hcl.1 hpz.1 hP hcl.2.1 hL hsz hpl
    have hkey : v_key g = ky b L := by
      unfold v_key ky
      rw [g1, g2]
    refine opS d (v := nI (P + 1)) (bm' := bm) (at2 := at') h77 hmd (add_cl hcl hpz k2 k6 k9) (fun c c1 c2 => k9 c (by omega)) (fun gg hg => wS_put (d + 29) l4 k1 hg) (fun mx hx => ?_) (add_pz hpz hL (by omega) k3 k4 k5 ⟨hkey, g4⟩ k8)
    obtain ⟨K, Ln, Pl, Sz, a1, a2, a3, a4, ⟨⟨op, p1, p2⟩, sv, p3, p4⟩⟩ := hx
    obtain ⟨my, bef', e1, e2, e3, e4, e5, e6, e7⟩ := m_put (d + 27) (G := G) (by omega) a1 a2 a3 a4 hL hpz.2.2.2.2.1 hpl hsz
    rw [← ky_cg hpz.2.2.2.1] at e4
    have hbb := bef_eq (hpz.2.1 P (Or.inl rfl)) k8 e4
    subst hbb
    have hb1 : bef' ≤ 1 := by rcases k8 with q | q <;> omega
    rw [lvd_eq lv (by omega) hb1] at e2
    exact ⟨my, e1, ⟨e5, e6, fun c hc => e7 c (by omega) (by omega) (by omega) (by omega) (by omega)⟩, _, _, _, _, e2, (e7 70 (by omega) (by omega) (by omega) (by omega) (by omega)).trans a2, e3, add_mh a4 hL hpz.2.2.2.1 ⟨g1, g2⟩ (fun _ => ⟨by rw [g6], by rw [g5]⟩) (fun q => by omega), ⟨op, (e7 75 (by omega) (by omega) (by omega) (by omega) (by omega)).trans p1, p2⟩, sv, (e7 76 (by omega) (by omega) (by omega) (by omega) (by omega)).trans p3, p4⟩
theorem op_out (d : Nat) (hn : n < 512) (h : Gs Ls xs mem n) : Opr d Ls xs n m_La_out m_Mo_out [.ref 4, .ref 77] [.ref 69] mem := by
  obtain ⟨G, P, s, sh, lv, mm, LV, J, Q, L, b, bm, at', y, fa, hcl, hmd, h77, hpz⟩ := h
  obtain ⟨R, E, C, B, Wn, T, U, D, hb, hsb⟩ := Sy_bs hcl.1
  have l4 := Sy_lt hcl.1
  have hL60 := hpz.2.2.1
  by_cases hL : 1 ≤ L ∧ L ≤ 40
  · have hP : P < 256 := by
      have := hpz.2.2.2.2.2.2.2.2.1
      rw [if_neg (by omega)] at this
      omega
    obtain ⟨m1, g, mm', bef, k1, k2, k3, k4, k5, k6, ⟨g1, g2, g3, g4, g5, g6⟩, k8, k9⟩ := x_LT_outp (d + 18) hcl.1 hpz.1 hP hcl.2.1 hL
    have hkey : v_key g = ky b L := by
      unfold v_key ky
      rw [g1, g2]
    refine opS d (v := nI (P + 1)) (bm' := bm) (at2 := at') h77 hmd (add_cl hcl hpz k2 k6 k9) (fun c c1 c2 => k9 c (by omega)) (fun gg hg => wS_out (d + 29) l4 k1 hg) (fun mx hx => ?_) (add_pz hpz hL (by omega) k3 k4 k5 ⟨hkey, g4⟩ k8)
    obtain ⟨K, Ln, Pl, Sz, a1, a2, a3, a4, ⟨⟨op, p1, p2⟩, sv, p3, p4⟩⟩ := hx
    obtain ⟨my, bef', e1, e2, e3, e4, e5, e6, e7⟩ := m_out (d + 27) (G := G) (by omega) a1 a2 a3 a4 hL hpz.2.2.2.2.1
    rw [← ky_cg hpz.2.2.2.1] at e4
    have hbb := bef_eq (hpz.2.1 P (Or.inl rfl)) k8 e4
    subst hbb
    have hb1 : bef' ≤ 1 := by rcases k8 with q | q <;> omega
    rw [lvd_eq lv (by omega) hb1] at e2
    exact ⟨my, e1, ⟨e5, e6, fun c hc => e7 c (by omega) (by omega) (by omega) (by omega) (by omega)⟩, _, _, _, _, e2, (e7 70 (by omega) (by omega) (by omega) (by omega) (by omega)).trans a2, e3, add_mh a4 hL hpz.2.2.2.1 ⟨g1, g2⟩ (fun q => by omega) (fun _ => rfl), ⟨op, (e7 75 (by omega) (by omega) (by omega) (by omega) (by omega)).trans p1, p2⟩, sv, (e7 76 (by omega) (by omega) (by omega) (by omega) (by omega)).trans p3, p4⟩
  · have k := x_LT_outT (d + 27) (by omega) hsb.1 hcl.2.1 hL60 hL
    exact opR d (kx := 1) (by omega) hcl hmd h77 hpz (wC_out_0 (d + 29) l4 k) (fun mx hx => m_outT (d + 28) hx hL60 hL)
end OPS4
