/-! LEVELTABLES: writeNeeded, from its call on (own text) -/
section NEEDX
variable {m : j_M} {G : Nat → Nat → Int64} {mm : List Nat} {R : Nat → Int64} {E C : Nat → Nat} {LV : Nat → List TG} {B : Nat → Option Nat} {Wn T U : Nat → Int32} {D : Nat → Nat → Int64} {old : List Nat} {e cap P l : Nat} {s : Nat → Option Nat} {sh lv hn un : Int32} {ml xs : List Nat} {a sp : Nat → Nat} {fv fn : Nat → Int64}
theorem x_LT_needed (d : Nat) (hG : Hg G) (hg : Rg G (rms mm LV)) (hb : Bs m G mm R E C LV B Wn T U D) (hWp : Wp m 0 0 []) (hA : Al m 67 e cap xs) (hAe : Ale m e cap) (hE : ∀ k, k < 4 → C k ≠ 0 → E k ≠ e) (h78 : 78 ≤ m.1) (hold : ∀ k, k < 4 → ∀ τ ∈ LV k, ∀ b ∈ τ.1.2.2.1, b ∈ old) (hVs : Vs m)
    (hT : old.Nodup ∧ (∀ b ∈ old, b < 1000 ∧ T b = 1) ∧ ∀ b, b < 1000 → b ∉ old → T b = 0)
    (hLT : LT m sh lv) (hV : Vw m P s) (hP : P ≤ 500) (hs : ∀ i m, s i = some m → m ≤ 500) (hru : Rns m) (hl : l < 4) (hcov : Cov (gK G) (rms mm LV) l ml) (hlen : old.length + ml.length < 1000 ∧ ml.length ≤ 400) (hcap : cap ≤ 1000)
    (hwq : Wq m hn un a sp fv fn (gW G (rms mm LV))) (hbd : ∀ r, r < 5 → a r ≤ sp r ∧ sp r ≤ (rms mm LV r).length) (hrl : Rl (gK G) (rms mm LV) a sp ml) :
    ∃ mo kp un' fv' e' cap' fs B' Wn' T' D', j_ex tb (d + 10) m_LT_writeNeeded [.ref 4, .int (nI l)] m (.inl none) mo ∧
      Kpt (gK G) (gT G) (vis P s) (mem5 (rms mm LV)) (dpr (rms mm LV) l) ml kp ∧ So (gK G) kp ∧ (lms fs).flatten = kp ∧ (lms fs).Pairwise (apt (gK G)) ∧ (∀ q ∈ lms fs, q ≠ []) ∧ 32 * fs.length ≤ kp.length + 32 ∧ Wl mo G (rms mm LV) sp un' fv' [] ∧ Nst m mo G old B D e cap e' cap' fs [] [] B' Wn' T' U D' := by
  have e78 : e = 2 ∨ 78 ≤ e := by
    by_cases c : cap = 0
    · exact Or.inl (hAe.1 c)
    · exact Or.inr (hAe.2 c).1
  obtain ⟨b1, b2, b3, b4, b5, b6, b7⟩ := id hb
  obtain ⟨m1, k1, k2, k3, k4, k5⟩ := x_Wr_begin (d + 7) hWp hA hAe (by omega)
  have f1 : ∀ c, c < 78 → c ≠ 67 → m1.2.2 c = m.2.2 c := fun c c1 c2 => k5 c c2 (by omega)
  have hwq1 : Wq m1 hn un a sp fv fn (gW G (rms mm LV)) := Wq_fr hwq (fun c c1 c2 => f1 c (by omega) (by omega)) (f1 19 (by omega) (by omega))
  have nf1 : Nf m old B e m1 := ⟨by omega, fun c hc => k5 c (by have := hc.2.2.2.2.2.2.2.2.2.2.2.1; omega) hc.2.2.2.2.2.2.2.2.2.2.2.2.1⟩
  obtain ⟨md0, Ef0, al1, al2, al3, al4⟩ := id hA
  have hR1 : Rw m1 B D := by
    refine ⟨fun b a q => ?_, b6.2⟩
    obtain ⟨r1, r2, r3⟩ := b6.1 b a q
    refine ⟨r1, by omega, ?_⟩
    rw [k5 a (by omega) (Or.inl (fun ec => by rw [ec, al2] at r3; cases r3))]
    exact r3
  have hC1 : Cp m1 B Wn T U := ⟨(f1 9 (by omega) (by omega)).trans b5.1, (f1 10 (by omega) (by omega)).trans b5.2.1, (f1 11 (by omega) (by omega)).trans b5.2.2.1, (f1 12 (by omega) (by omega)).trans b5.2.2.2.1, (f1 13 (by omega) (by omega)).trans b5.2.2.2.2⟩
  have hb1 : Bs m1 G mm R E C LV B Wn T U D := Bs_nf hb hA hAe hE h78 nf1 hC1 hR1 (Bx_refl _ _) hold (fun _ _ => rfl)
  obtain ⟨m0, g1, g2, g3⟩ := gh_begin (d + 2) hG hg hwq1 (Bs_Rd hb1) hbd hrl
  have hm01 : m0.1 = m.1 ∧ m0.2.1 = m.2.1 := ⟨g2.1.trans k3, g2.2.1.trans k4⟩
  have nf0 : Nf m old B e m0 := Nf_wf nf1 g2
  have f0 : ∀ c, c < 48 ∨ 66 ≤ c → m0.2.2 c = m1.2.2 c := g2.2.2
  have hR0 : Rw m0 B D := Rw_fr hR1 (by omega) (fun c c1 c2 => f0 c (by omega))
  have hC0 : Cp m0 B Wn T U := ⟨(f0 9 (by omega)).trans hC1.1, (f0 10 (by omega)).trans hC1.2.1, (f0 11 (by omega)).trans hC1.2.2.1, (f0 12 (by omega)).trans hC1.2.2.2.1, (f0 13 (by omega)).trans hC1.2.2.2.2⟩
  have hb0 : Bs m0 G mm R E C LV B Wn T U D := Bs_nf hb hA hAe hE h78 nf0 hC0 hR0 (Bx_refl _ _) hold (fun _ _ => rfl)
  have hAe0 : Ale m0 e cap := ⟨hAe.1, fun c => by have := hAe.2 c; omega⟩
  have hA0 : Al m0 67 e cap [] := by
    obtain ⟨md, Ef, q1, q2, q3, q4⟩ := k2
    exact ⟨md, Ef, (f0 67 (by omega)).trans q1, (f0 e (by omega)).trans q2, q3, q4⟩
  have sm : ∀ c, c < 66 → (c < 48) → m0.2.2 c = m.2.2 c := fun c c1 c2 => (f0 c (by omega)).trans (f1 c (by omega) (by omega))
  have hVs0 : Vs m0 := by
    obtain ⟨hn', a', fn', q1, -⟩ := g3
    exact Vs_wq (Vs_fr hVs (fun c c1 c2 => f1 c (by omega) (by omega))) g2 q1
  have hWp0 : Wp m0 0 0 [] := by
    obtain ⟨p1, p2, bf, p3, p4⟩ := hWp
    exact ⟨(f0 66 (by omega)).trans ((f1 66 (by omega) (by omega)).trans p1), p2, bf, (f0 68 (by omega)).trans ((f1 68 (by omega) (by omega)).trans p3), p4⟩
  have hru0 : Rns m0 := by
    obtain ⟨Hr, r1, r2⟩ := hru
    exact ⟨Hr, (sm 19 (by omega) (by omega)).trans r1, r2⟩
  have hst0 : Nst m0 m0 G old B D e cap e cap [] [] [] B Wn T U D := by
    refine ⟨hVs0, ⟨⟨hWp0, hC0, hR0⟩, ⟨hA0, hAe0⟩, fun τ h => (by cases h), List.Pairwise.nil, ⟨fun b h => (by cases h), fun p h => (by cases h), fun h => absurd rfl h⟩, ?_, by omega⟩, Nf_refl, Bx_refl _ _, fun _ _ => rfl, Or.inl rfl, fun τ h => (by cases h), Nat.le_refl _, Or.inl rfl, by omega, by omega⟩
    have e1 : old ++ ubs [] ++ [] = old := by simp [ubs]
    rw [e1]
    exact hT
  obtain ⟨mo, kp, un', fv', e', cap', fs, B', Wn', T', D', z1, z2, z3, z4, z5, z6, z7, z8, z9⟩ := need_loop d hG hg hb0 hA0 hAe0 hE (by omega) hold ((sm 4 (by omega) (by omega)).trans hLT) ⟨(sm 7 (by omega) (by omega)).trans hV.1, (sm 8 (by omega) (by omega)).trans hV.2⟩ hP hs hru0 hl hcov hrl.1 hlen hcap ml [] [] 0 0 0 m0 un fv e cap [] [] [] B Wn T D none none none (by simp) (Kin_0 ml 0) (by omega) (Cut_0 _) List.Pairwise.nil (by omega) g3 hst0
  refine ⟨mo, kp, un', fv', e', cap', fs, B', Wn', T', D', ?_, z2, z3, z4, z5, z6, z7, z8, ?_⟩
  · have l4 : m.2.2 4 = _ := hLT
    have l41 : m1.2.2 4 = _ := (f1 4 (by omega) (by omega)).trans hLT
    have w66 := hWp.1
    have w48 := hwq1.1
    refine ⟨e_LT_writeNeeded, rfl, Nat.le_of_ble_eq_true rfl, ?_⟩
    repeat (first | refine ev_go rfl (by rfl) ?_ | refine ev_gf rfl (by assumption) (by rfl) (by rfl) ?_)
    refine ev_cv (as := []) rfl rfl rfl (by assumption) (by rfl) (by rfl) (k1) ?_
    repeat (first | refine ev_go rfl (by rfl) ?_ | refine ev_gf rfl (by assumption) (by rfl) (by rfl) ?_)
    refine ev_cv (as := []) rfl rfl rfl (by assumption) (by rfl) (by rfl) (g1) ?_
    repeat (first | exact z1 | refine ev_go rfl (by rfl) ?_ | refine ev_gf rfl (by assumption) (by rfl) (by rfl) ?_)
  · obtain ⟨q1, q2, q3, q4, q5, q6, q7, q8, q9, q10, q11⟩ := z9
    refine ⟨q1, q2, ⟨by have := q3.1; omega, fun c hc => ?_⟩, ⟨q4.1, fun b a q => (q4.2 b a q).imp id (fun w => by omega)⟩, q5, by omega, fun τ hτ => by have := q7 τ hτ; omega, q8, q9, by omega, by omega⟩
    have hc0 : Kc m0 old B e c := by
      unfold Kc at hc ⊢
      rw [hm01.1]
      exact hc
    rw [q3.2 c hc0]
    exact nf0.2 c hc
end NEEDX
