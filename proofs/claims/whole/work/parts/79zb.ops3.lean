/-! THE LAW: find, seek (own text) -/
theorem view_d (x : Int32) : (x < -1 ∨ 8 ≤ x) ∨ x = -1 ∨ ∃ i, x = nI i ∧ i < 8 := by
  rcases int_c x with q | ⟨i, rfl, hi⟩
  · by_cases c : x < -1
    · exact Or.inl (Or.inl c)
    · refine Or.inr (Or.inl ?_)
      apply Int32.toInt_inj.mp
      have h1 := Int32.lt_iff_toInt_lt.mp q
      have h2 : ¬ x.toInt < (-1 : Int32).toInt := fun z => c (Int32.lt_iff_toInt_lt.mpr z)
      have e1 : (-1 : Int32).toInt = -1 := by decide
      have e0 : (0 : Int32).toInt = 0 := by decide
      omega
  · by_cases c : nI 8 ≤ nI i
    · exact Or.inl (Or.inr c)
    · exact Or.inr (Or.inr ⟨i, rfl, n_8 c hi⟩)
theorem Sees_v {P : Nat} {s : Nat → Option Nat} {x : Int32} {m : Nat} (h : Sees P s x m) : vis P s m := by
  rcases h with ⟨-, q⟩ | ⟨i, -, q1, q2⟩
  · exact Or.inl q
  · exact Or.inr ⟨i, q1, q2⟩
section OPS5
variable {Ls : Nat} {xs : Nat → Int32} {mem : j_M} {n : Nat} {G : Nat → Nat → Int64} {P : Nat} {s : Nat → Option Nat} {sh lv at' : Int32} {mm : List Nat} {LV : Nat → List TG} {J Q L : Nat} {b bm : Nat → Int32} {y : Nat}
theorem view_s (P : Nat) (s : Nat → Option Nat) (x : Int32) : (x < -1 ∨ 8 ≤ x) ∨ (∃ m, Sees P s x m) ∨ ∃ i, x = nI i ∧ i < 8 ∧ s i = none := by
  rcases view_d x with q | q | ⟨i, rfl, hi⟩
  · exact Or.inl q
  · exact Or.inr (Or.inl ⟨P, Or.inl ⟨q, rfl⟩⟩)
  · cases hs : s i with
    | none => exact Or.inr (Or.inr ⟨i, rfl, hi, hs⟩)
    | some m => exact Or.inr (Or.inl ⟨m, Or.inr ⟨i, rfl, hi, hs⟩⟩)
theorem Pz_found (h : Pz n G P s sh lv mm LV J Q L b bm at' y) {t : Nat} (h1 : 1 ≤ t ∧ t ≤ P) (ht : gT G t = 1) : Pz (n + 1) G P s 1 lv mm LV J Q 0 b bm (nI (t - 1)) (t - 1) := by
  obtain ⟨a1, a2, a3, a4, a5, a6, a7, a8, a9, a10, a11⟩ := h
  refine ⟨a1, a2, by omega, fun j hj => by omega, a5, a6, a7, Or.inr ⟨rfl, rfl, by omega, ?_⟩, ?_, by omega, by omega⟩
  · rw [show t - 1 + 1 = t by omega]
    exact ht
  · rw [if_pos rfl]
    omega
theorem Pz_not (h : Pz n G P s sh lv mm LV J Q L b bm at' y) : Pz (n + 1) G P s 0 lv mm LV J (Q + 1) 0 b bm (-1) y := by
  obtain ⟨a1, a2, a3, a4, a5, a6, a7, a8, a9, a10, a11⟩ := h
  refine ⟨a1, a2, by omega, fun j hj => by omega, a5, a6, a7, Or.inl ⟨rfl, rfl⟩, ?_, by omega, by omega⟩
  rw [if_pos rfl]
  omega
theorem Pz_cut (h : Pz n G P s sh lv mm LV J Q L b bm at' y) : Pz (n + 1) G P s sh lv mm LV J (Q + 1) 0 b bm at' y := by
  obtain ⟨a1, a2, a3, a4, a5, a6, a7, a8, a9, a10, a11⟩ := h
  refine ⟨a1, a2, by omega, fun j hj => by omega, a5, a6, a7, a8, ?_, by omega, by omega⟩
  rw [if_pos rfl]
  omega
theorem Cl_oy {m1 : j_M} (hcl : Cl Ls xs mem G P s sh lv mm LV J Q L b y) {Q' : Nat} (hsy : Sy m1 G P s sh lv mm LV J Q') (hta : Ta m1 0 b) (ho : Oy mem m1) : Cl Ls xs m1 G P s sh lv mm LV J Q' 0 b y := by
  obtain ⟨a1, a2, a3, a4, a5⟩ := hcl
  refine ⟨hsy, hta, ?_, (ho 1 (by omega)).trans a4, (ho 0 (by omega)).trans a5⟩
  rcases a3 with q | ⟨q, f, f1, f2⟩
  · exact Or.inl q
  · exact Or.inr ⟨q, f, ⟨(ho 30 (by omega)).trans f1.1, (ho 31 (by omega)).trans f1.2⟩, f2⟩
theorem Cl_oz {m1 : j_M} (hcl : Cl Ls xs mem G P s sh lv mm LV J Q L b y) {t : Nat} {f : Nat → Int64} (ht : 1 ≤ t) (hsy : Sy m1 G P s 1 lv mm LV J Q) (hta : Ta m1 0 b) (hv : Ve m1 30 31 f) (hf : sw f (G t)) (ho : Oz mem m1) : Cl Ls xs m1 G P s 1 lv mm LV J Q 0 b (t - 1) := by
  obtain ⟨a1, a2, a3, a4, a5⟩ := hcl
  refine ⟨hsy, hta, Or.inr ⟨rfl, f, hv, ?_⟩, (ho 1 (by omega)).trans a4, (ho 0 (by omega)).trans a5⟩
  rw [show t - 1 + 1 = t by omega]
  exact hf
theorem Cl_on {m1 : j_M} (hcl : Cl Ls xs mem G P s sh lv mm LV J Q L b y) {Q' : Nat} (hsy : Sy m1 G P s 0 lv mm LV J Q') (hta : Ta m1 0 b) (ho : Oz mem m1) : Cl Ls xs m1 G P s 0 lv mm LV J Q' 0 b y := ⟨hsy, hta, Or.inl rfl, (ho 1 (by omega)).trans hcl.2.2.2.1, (ho 0 (by omega)).trans hcl.2.2.2.2⟩
theorem op_find (d : Nat) (x : Int32) (hn : n < 512) (h : Gs Ls xs mem n) : Opr d Ls xs n m_La_find m_Mo_find [.ref 4, .int x, .ref 77] [.ref 69, .int x] mem := by
  obtain ⟨G, P, s, sh, lv, mm, LV, J, Q, L, b, bm, at', y, fa, hcl, hmd, h77, hpz⟩ := h
  obtain ⟨R, E, C, B, Wn, T, U, D, hb, hsb⟩ := Sy_bs hcl.1
  have l4 := Sy_lt hcl.1
  have hL60 := hpz.2.2.1
  have hP : P ≤ 256 := by have := hpz.2.2.2.2.2.2.2.2.1; omega
  have refuse : x < -1 ∨ 8 ≤ x ∨ ¬ (1 ≤ L ∧ L ≤ 40) → Opr d Ls xs n m_La_find m_Mo_find [.ref 4, .int x, .ref 77] [.ref 69, .int x] mem := fun c => by
    have k := x_LT_findR (d + 27) (by omega) hsb.1 hcl.2.1 hL60 c
    exact opR d (kx := 1) (by omega) hcl hmd h77 hpz (wC_find_0 (d + 29) l4 k) (fun mx hx => m_findR (d + 28) hx hL60 c)
  by_cases hL : 1 ≤ L ∧ L ≤ 40
  · rcases view_s P s x with c | ⟨m, hm⟩ | ⟨i, rfl, hi, hsi⟩
    · exact refuse (by
        rcases c with c | c
        · exact Or.inl c
        · exact Or.inr (Or.inl c))
    · have hmP : m ≤ P := by
        rcases hm with ⟨-, q⟩ | ⟨i, -, -, q⟩
        · omega
        · exact hpz.2.2.2.2.2.1 i m q
      have hval := hpz.2.1 m (Sees_v hm)
      have hky := ky_cg hpz.2.2.2.1
      have uq : ∀ t t', hst (gK G) (gT G) m t → gK G t = ky b L → hst (gK G) (gT G) m t' → gK G t' = ky bm L → t' = t := fun t t' q1 q2 q3 q4 => hst_uq q3 q1 (by rw [q4, q2, hky])
      rcases x_LT_find (d + 18) hcl.1 hpz.1 hcl.2.1 hL hm (by omega) with ⟨m1, t, f', k1, k2, k3, k4, k5, k6, k7, k8⟩ | ⟨m1, a, k1, k2, k3, k4, k5⟩
      · have hst1 := (hval t).mp k6
        refine opS d (v := nI (v_pl (G t))) (bm' := bm) (at2 := nI (t - 1)) h77 hmd (Cl_oz hcl hst1.1 k2 k3 k4 k5 k8) (fun c c1 c2 => k8 c (by omega)) (fun gg hg => wS_find (d + 29) l4 k1 hg) (fun mx hx => ?_) (Pz_found hpz ⟨hst1.1, by have := hst1.2.1; omega⟩ hst1.2.2.1)
        obtain ⟨K, Ln, Pl, Sz, a1, a2, a3, a4, a5⟩ := hx
        rcases m_findV (d + 28) (G := G) (by omega) a1 a2 a3 a4 a5 hL hm hmP with ⟨t', q1, q2, q3⟩ | ⟨q1, -⟩
        · have e := uq t t' hst1 k7 q1 q2
          subst e
          exact ⟨_, q3, Mfr_69 _, K, Ln, Pl, Sz, rfl, a2, Mar_69 a3 _, a4, a5⟩
        · exact absurd ⟨t, hst1, by rw [k7, hky]⟩ q1
      · refine opT d (kx := 3) (bv := 0) (bm' := bm) (at2 := -1) (by omega) h77 hmd (Cl_on hcl k2 k3 k5) (fun c c1 c2 => k5 c (by omega)) (wC_find_3 (d + 29) l4 k1) (fun mx hx => ?_) (Pz_not hpz)
        obtain ⟨K, Ln, Pl, Sz, a1, a2, a3, a4, a5⟩ := hx
        rcases m_findV (d + 28) (G := G) (by omega) a1 a2 a3 a4 a5 hL hm hmP with ⟨t', q1, q2, q3⟩ | ⟨q1, q2⟩
        · exact absurd ⟨t', (hval t').mpr q1, by rw [q2, hky]⟩ k4
        · exact ⟨_, q2, Mfr_69 _, K, Ln, Pl, Sz, rfl, a2, Mar_69 a3 _, a4, a5⟩
    · obtain ⟨m1, a, k1, k2, k3, k4⟩ := x_LT_findS (d + 18) hcl.1 hcl.2.1 hL hi hsi
      refine opT d (kx := 2) (bv := 0) (bm' := bm) (at2 := at') (by omega) h77 hmd (Cl_oy hcl k2 k3 k4) (fun c c1 c2 => k4 c (by omega)) (wC_find_1 (d + 29) l4 k1) (fun mx hx => ?_) (Pz_cut hpz)
      obtain ⟨K, Ln, Pl, Sz, a1, a2, a3, a4, a5⟩ := hx
      exact ⟨_, m_findS (d + 28) a1 a5 hL hi hsi, Mfr_69 _, K, Ln, Pl, Sz, rfl, a2, Mar_69 a3 _, a4, a5⟩
  · exact refuse (Or.inr (Or.inr hL))
theorem op_seek (d : Nat) (x : Int32) {z : Nat} (hz : z ≤ 1) (hn : n < 512) (h : Gs Ls xs mem n) : Opr d Ls xs n m_La_seek m_Mo_seek [.ref 4, .int x, .int (nI z), .ref 77] [.ref 69, .int x, .int (nI z)] mem := by
  obtain ⟨G, P, s, sh, lv, mm, LV, J, Q, L, b, bm, at', y, fa, hcl, hmd, h77, hpz⟩ := h
  obtain ⟨R, E, C, B, Wn, T, U, D, hb, hsb⟩ := Sy_bs hcl.1
  have l4 := Sy_lt hcl.1
  have hL60 := hpz.2.2.1
  have hP : P ≤ 256 := by have := hpz.2.2.2.2.2.2.2.2.1; omega
  have refuse : x < -1 ∨ 8 ≤ x ∨ 40 < L → Opr d Ls xs n m_La_seek m_Mo_seek [.ref 4, .int x, .int (nI z), .ref 77] [.ref 69, .int x, .int (nI z)] mem := fun c => by
    have k := x_LT_seekR (d + 27) (by omega) (z := nI z) hsb.1 hcl.2.1 hL60 c
    exact opR d (kx := 1) (by omega) hcl hmd h77 hpz (wC_seek_0 (d + 29) l4 k) (fun mx hx => m_seekR (d + 28) hx hL60 c)
  by_cases hL : L ≤ 40
  · rcases view_s P s x with c | ⟨m, hm⟩ | ⟨i, rfl, hi, hsi⟩
    · exact refuse (by
        rcases c with c | c
        · exact Or.inl c
        · exact Or.inr (Or.inl c))
    · have hmP : m ≤ P := by
        rcases hm with ⟨-, q⟩ | ⟨i, -, -, q⟩
        · omega
        · exact hpz.2.2.2.2.2.1 i m q
      have hval := hpz.2.1 m (Sees_v hm)
      have hky := ky_cg hpz.2.2.2.1
      rcases x_LT_seek (d + 17) hz hcl.1 hpz.1 hcl.2.1 hL hm (by omega) with ⟨m1, t, f', k1, k2, k3, k4, k5, k6, k7, k7', k8⟩ | ⟨m1, a, k1, k2, k3, k4, k5⟩
      · have hst1 := (hval t).mp k6
        rw [hky] at k7 k7'
        refine opS d (v := nI (v_pl (G t))) (bm' := bm) (at2 := nI (t - 1)) h77 hmd (Cl_oz hcl hst1.1 k2 k3 k4 k5 k8) (fun c c1 c2 => k8 c (by omega)) (fun gg hg => wS_seek (d + 29) l4 k1 hg) (fun mx hx => ?_) (Pz_found hpz ⟨hst1.1, by have := hst1.2.1; omega⟩ hst1.2.2.1)
        obtain ⟨K, Ln, Pl, Sz, a1, a2, a3, a4, a5⟩ := hx
        rcases m_seekV (d + 27) (G := G) hz (by omega) a1 a2 a3 a4 a5 hL hm hmP with ⟨t', q1, q2, q3, q4⟩ | ⟨q1, -⟩
        · have e : t' = t := by
            have h1 := q3 t hst1 k7
            have h2 := k7' t' ((hval t').mpr q1) q2
            have b1 := q1.2.1
            have b2 := hst1.2.1
            refine hst_uq q1 hst1 ?_
            unfold oN at h2
            omega
          subst e
          exact ⟨_, q4, Mfr_69 _, K, Ln, Pl, Sz, rfl, a2, Mar_69 a3 _, a4, a5⟩
        · have := q1 t hst1
          omega
      · rw [hky] at k4
        refine opT d (kx := 3) (bv := 0) (bm' := bm) (at2 := -1) (by omega) h77 hmd (Cl_on hcl k2 k3 k5) (fun c c1 c2 => k5 c (by omega)) (wC_seek_3 (d + 29) l4 k1) (fun mx hx => ?_) (Pz_not hpz)
        obtain ⟨K, Ln, Pl, Sz, a1, a2, a3, a4, a5⟩ := hx
        rcases m_seekV (d + 27) (G := G) hz (by omega) a1 a2 a3 a4 a5 hL hm hmP with ⟨t', q1, q2, q3, q4⟩ | ⟨q1, q2⟩
        · have := k4 t' ((hval t').mpr q1)
          omega
        · exact ⟨_, q2, Mfr_69 _, K, Ln, Pl, Sz, rfl, a2, Mar_69 a3 _, a4, a5⟩
    · obtain ⟨m1, a, k1, k2, k3, k4⟩ := x_LT_seekS (d + 17) (z := nI z) hcl.1 hcl.2.1 hL hi hsi
      refine opT d (kx := 2) (bv := 0) (bm' := bm) (at2 := at') (by omega) h77 hmd (Cl_oy hcl k2 k3 k4) (fun c c1 c2 => k4 c (by omega)) (wC_seek_1 (d + 29) l4 k1) (fun mx hx => ?_) (Pz_cut hpz)
      obtain ⟨K, Ln, Pl, Sz, a1, a2, a3, a4, a5⟩ := hx
      exact ⟨_, m_seekS (d + 28) a1 a5 hL hi hsi, Mfr_69 _, K, Ln, Pl, Sz, rfl, a2, Mar_69 a3 _, a4, a5⟩
  · exact refuse (Or.inr (Or.inr (by omega)))
end OPS5
