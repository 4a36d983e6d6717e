/-! THE LAW: its first state; all of it (own text) -/
def Mi (L : Nat) (xs : Nat → Int32) : j_M := M_ 28942 (m_0 L xs).2.2 [some (ltC 0 0), some (kc_5), some (kc_6), some (kc_7), some (kc_8), some (kc_9), some (kc_10), some (kc_11), some (kc_12), some (kc_13), some (kc_14), some (kc_15), some (kc_16), some (kc_17), some (kc_18), some (kc_19), some (kc_20), some (kc_21), some (kc_22), some (kc_23), some (kc_24), some (kc_25), some (kc_26), some (kc_27), some (kc_28), some (kc_29), some (kc_30), some (kc_31), some (kc_32), some (kc_33), some (kc_34), some (kc_35), some (kc_36), some (kc_37), some (kc_38), some (kc_39), some (kc_40), some (kc_41), some (kc_42), some (kc_43), some (kc_44), some (kc_45), some (kc_46), some (kc_47), some (kc_48), some (kc_49), some (kc_50), some (kc_51), some (kc_52), some (kc_53), some (kc_54), some (kc_55), some (kc_56), some (kc_57), some (kc_58), some (kc_59), some (kc_60), some (kc_61), some (kc_62), some (kc_63), some (kc_64), some (kc_65), some (kc_66), some (kc_67), some (kc_68), some (kc_69), some (kc_70), some (kc_71), some (kc_72), some (kc_73), some (kc_74), some (kc_75), some (kc_76), some (zJ 1)]
def G_0 (m : Nat) : Nat → Int64 := v_at (fun _ => 0) m
def s_0 (j : Nat) : Option Nat := if j < 8 then none else some 0
theorem s_0n {j m : Nat} (h : s_0 j = some m) : ¬ j < 8 ∧ m = 0 := by
  unfold s_0 at h
  by_cases c : j < 8
  · rw [if_pos c] at h
    cases h
  · rw [if_neg c] at h
    cases h
    exact ⟨c, rfl⟩
set_option maxRecDepth 100000 in
theorem ini_Vs (L : Nat) (xs : Nat → Int32) : Vs (Mi L xs) := by
  intro v hv
  unfold vcell at hv
  rcases hv with rfl | rfl | rfl | rfl | rfl | rfl | rfl | rfl | rfl | rfl | rfl | rfl | rfl | rfl | rfl | rfl | rfl | rfl <;> exact ⟨fun _ => 0, rfl, rfl⟩
set_option maxRecDepth 100000 in
theorem ini_Wz (L : Nat) (xs : Nat → Int32) : Wz (Mi L xs) := by
  refine ⟨0, 0, fun _ => 0, fun _ => 0, fun _ => 0, fun _ => 0, fun _ _ _ => 0, rfl, rfl, rfl, ⟨_, rfl, fun r hr => ?_⟩, ⟨_, rfl, fun r hr => ?_⟩, ⟨rfl, rfl⟩, ⟨rfl, rfl⟩, fun r hr => ?_⟩
  · have : r = 0 ∨ r = 1 ∨ r = 2 ∨ r = 3 ∨ r = 4 := by omega
    rcases this with rfl | rfl | rfl | rfl | rfl <;> rfl
  · have : r = 0 ∨ r = 1 ∨ r = 2 ∨ r = 3 ∨ r = 4 := by omega
    rcases this with rfl | rfl | rfl | rfl | rfl <;> rfl
  · have : r = 0 ∨ r = 1 ∨ r = 2 ∨ r = 3 ∨ r = 4 := by omega
    rcases this with rfl | rfl | rfl | rfl | rfl <;> exact ⟨fun _ => 0, ⟨rfl, rfl⟩, fun h => absurd h (Nat.lt_irrefl _)⟩
set_option maxRecDepth 100000 in
theorem ini_Lv (L : Nat) (xs : Nat → Int32) : Lvs (Mi L xs) (fun _ => 2) (fun _ => 0) (fun _ => lfs []) := by
  intro k hk
  have e2 : (Mi L xs).2.2 2 = some (.inl (6, 0, .inr (.inr (.inr (.inr (fun _ => none)))))) := rfl
  have hr : Lr (Mi L xs) 2 0 (lfs []) := ⟨⟨fun _ => rfl, fun h => absurd rfl h⟩, fun τ h => by cases h⟩
  have : k = 0 ∨ k = 1 ∨ k = 2 ∨ k = 3 := by omega
  refine ⟨?_, hr, (by decide : (0 : Nat) < 2 ^ 20), (by decide : (0 : Nat) < 2 ^ 20)⟩
  rcases this with rfl | rfl | rfl | rfl <;> exact ⟨rfl, trivial, ⟨0, fun _ => none, rfl, e2, fun i hi => (by cases hi), Nat.le_refl _⟩, fun j hj => by cases hj⟩
theorem ini_dj (F : TG → List Nat) : Dj F (fun _ => []) := ⟨fun k _ => List.Pairwise.nil, fun k k' _ _ _ b hb => by cases hb⟩
set_option maxRecDepth 100000 in
theorem ini_Sy (L : Nat) (xs : Nat → Int32) : Sy (Mi L xs) G_0 0 s_0 0 0 [] (fun _ => []) 0 0 := by
  have e2 : (Mi L xs).2.2 2 = some (.inl (6, 0, .inr (.inr (.inr (.inr (fun _ => none)))))) := rfl
  have e8 : (Mi L xs).2.2 8 = some (.inl (0, 8, .inl (fun j => vo (s_0 j)))) := by
    have h : flI (fun _ => (0 : Int32)) 8 (-1) = fun j => vo (s_0 j) := by
      funext j
      unfold flI s_0
      by_cases c : j < 8
      · rw [if_pos c, if_pos c]
        rfl
      · rw [if_neg c, if_neg c]
        rfl
    rw [← h]
    rfl
  refine ⟨fun _ => 0, fun _ => 2, fun _ => 0, fun _ => none, fun _ => 0, fun _ => 0, fun _ => 0, fun _ _ => 0, 2, 0, ⟨rfl, ⟨rfl, e8⟩, ⟨_, rfl, fun r hr => ?_⟩, ⟨_, rfl, fun r hr => ?_⟩, ini_Vs L xs, ini_Wz L xs⟩, ⟨⟨rfl, trivial, rfl⟩, by simp, fun i hi => (by cases hi), ini_Lv L xs, ⟨rfl, rfl, rfl, rfl, rfl⟩, ⟨fun b a h => (by cases h), fun b b' a h => (by cases h)⟩, fun k hk τ hτ => (by cases hτ)⟩, ⟨⟨rfl, rfl, fun _ => 0, rfl, fun i hi => (by cases hi)⟩, ⟨[], 0, fun _ => none, rfl, e2, fun i hi => (by cases hi), Nat.le_refl _⟩, ⟨fun _ => rfl, fun h => absurd rfl h⟩⟩, ⟨fun k hk c => absurd rfl c, fun k k' h1 h2 h3 c => absurd rfl c⟩, ⟨ini_dj _, ini_dj _, ⟨fun k hk b hb => (by cases hb), fun b hb hn => rfl⟩, rfl⟩, Nat.le_refl _, ⟨fun k hk => Nat.zero_le _, by omega⟩, ?_⟩
  · have : r = 0 ∨ r = 1 ∨ r = 2 ∨ r = 3 ∨ r = 4 := by omega
    rcases this with rfl | rfl | rfl | rfl | rfl <;> rfl
  · have : r = 0 ∨ r = 1 ∨ r = 2 ∨ r = 3 := by omega
    rcases this with rfl | rfl | rfl | rfl <;> rfl
  · constructor
    · show 78 ≤ 78 + nB (fun _ => none) + (0 + 0 + 0 + 0) + 0 + 18 * 0 + 0
      omega
    · show 28942 ≤ 60000 + 48 * nB (fun _ => none) + (0 * 0 + 0 * 0 + 0 * 0 + 0 * 0) + 0 * 0 + 540 * 0 + 6 * 0
      omega
theorem ini_rms (r : Nat) : rms [] (fun _ => []) r = [] := by
  unfold rms
  split
  · rfl
  · rfl
theorem ini_Pu : Pu G_0 0 [] (fun _ => []) := by
  refine ⟨fun m hm => ?_, ⟨fun r hr => ?_, fun r hr t ht => ?_, fun r r' _ _ t ht => ?_⟩, fun r hr t ht => ?_, fun k hk => ⟨List.Pairwise.nil, fun q hq => by cases hq⟩⟩
  · exact (v_desc (f := fun _ => 0) (m := m) (t := 0) (s := 0) (p := 0) hm (by omega) (by omega) (by omega)).2.2.1
  · rw [ini_rms]
    exact List.Pairwise.nil
  · rw [ini_rms] at ht
    cases ht
  · rw [ini_rms] at ht
    cases ht
  · rw [ini_rms] at ht
    cases ht
set_option maxRecDepth 100000 in
theorem ini_Gs (L : Nat) (xs : Nat → Int32) : Gs L xs (Mi L xs) 0 := by
  refine ⟨G_0, 0, s_0, 0, 0, [], fun _ => [], 0, 0, 0, fun _ => 0, fun _ => 0, -1, 0, 0, ⟨ini_Sy L xs, ⟨rfl, rfl⟩, Or.inl rfl, rfl, rfl⟩, ⟨fun _ => 0, fun _ => 0, fun _ => 0, fun _ => 0, rfl, rfl, ⟨rfl, rfl, rfl, rfl⟩, fun v hv => (by cases hv), ⟨fun _ => 0, rfl, fun j hj => ?_⟩, fun _ => 0, rfl, fun j m hj hm => ?_⟩, ⟨_, rfl⟩, ini_Pu, fun m hm t => ?_, by omega, fun j hj => (by cases hj), fun j => (by show j_nb 2 0 = 0; decide), fun i m hi => ?_, ?_, Or.inl ⟨rfl, rfl⟩, ?_, Nat.zero_le _, Nat.le_refl _⟩
  · unfold s_0
    rw [if_pos hj]
    rfl
  · exact absurd hj (s_0n hm).1
  · constructor
    · rintro ⟨⟨r, h1, h2⟩, -⟩
      rw [ini_rms] at h2
      cases h2
    · rintro ⟨h1, h2, -⟩
      rcases hm with q | ⟨i, q1, q2⟩
      · omega
      · exact absurd q1 (s_0n q2).1
  · have := (s_0n hi).2
    omega
  · rw [hcn_0]
    rfl
  · rw [if_pos rfl]
    omega
set_option maxRecDepth 100000 in
theorem law_all : LawRuns := by
  intro L xs hL
  have k : Xv (10 + 31) (j_ex tb (10 + 30)) (j_tab q_law) [] (.inl (some (.int 1))) Bnd 0 (j_en 8 [.ref 0]) [] (M_ 0 (m_0 L xs).2.2 []) := by
    refine xv_nw (a := 4) rfl rfl ?_
    refine xv_go rfl (by rfl) ?_
    refine xv_call rfl (iM_LT 34) ?_
    refine xv_go rfl (by rfl) ?_
    refine xv_nw (a := 69) rfl rfl ?_
    refine xv_go rfl (by rfl) ?_
    refine xv_call rfl (iM_Mo 39) ?_
    refine xv_go rfl (by rfl) ?_
    refine xv_go rfl (by rfl) ?_
    refine xv_na (m := 1) (a := 77) rfl (by omega) rfl ?_
    refine xv_go rfl (by rfl) ?_
    refine xv_go rfl (by rfl) ?_
    refine xv_go rfl (by rfl) ?_
    refine xv_m (mem' := Mi L xs) rfl ?_
    exact law_loop 10 hL 512 0 (Mi L xs) none none none rfl (ini_Gs L xs)
  obtain ⟨mo, k1, k2, k3⟩ := k
  rw [← m0_M] at k1
  exact ⟨mo, lv_of k1, k2, k3⟩
