/-! LEVEL: renumber, remove (own text) -/
/-- a level whose count and starts need not be right -/
def Lp (mem : j_M) (L e cap : Nat) (ts : List TR) (c0 : Int32) (fm : Nat → Int64) : Prop :=
  mem.2.2 L = some (.inr (5, [.ref (L + 1), .int c0, .ref 9, .ref (L + 3)])) ∧ Ve mem (L + 1) (L + 2) fm ∧ Al mem (L + 3) e cap (ts.map (fun τ => τ.1)) ∧ ∀ τ ∈ ts, ∃ st, TbX mem τ st
theorem Lv_Lp {mem : j_M} {L e cap : Nat} {ts : List TR} {fm : Nat → Int64} (h : Lv mem L e cap ts fm) : Lp mem L e cap ts (nI (sta ts ts.length)) fm :=
  ⟨h.1, h.2.1, h.2.2.1, fun τ hτ => by
    obtain ⟨j, hj, rfl⟩ := List.mem_iff_getElem.mp hτ
    have := h.2.2.2 j hj
    rw [List.getD_eq_getElem?_getD, List.getElem?_eq_getElem hj] at this
    exact ⟨_, this⟩⟩
theorem nd_ne {ts : List TR} (h : (ts.map (fun τ => τ.1)).Nodup) {i j : Nat} (hi : i < ts.length) (hj : j < ts.length) (hij : i ≠ j) : (ts.getD i tz).1 ≠ (ts.getD j tz).1 := by
  rw [← getD_map1, ← getD_map1]
  rw [getD_lt (by rw [List.length_map]; exact hi), getD_lt (by rw [List.length_map]; exact hj)]
  have hp := List.pairwise_iff_getElem.mp h
  rcases Nat.lt_or_gt_of_ne hij with q | q
  · exact hp i j _ _ q
  · exact fun z => hp j i _ _ q z.symm
section RENUM
variable {mem : j_M} {L e cap : Nat} {ts : List TR} {fm : Nat → Int64}
theorem x_Lv_renumber (d : Nat) {c0 : Int32} (h : Lp mem L e cap ts c0 fm) (hr : Lr mem e cap ts) (hnd : (ts.map (fun τ => τ.1)).Nodup) (hL : 14 ≤ L ∧ L + 3 < 78) (hc : cap < 2 ^ 20) :
    ∃ mem', j_ex tb (d + 4) m_Lv_renumber [.ref L] mem (.inl none) mem' ∧ Lv mem' L e cap ts fm ∧ mem'.1 = mem.1 ∧ mem'.2.1 = mem.2.1 ∧ ∀ c, c ≠ L → (∀ τ ∈ ts, c ≠ τ.1) → mem'.2.2 c = mem.2.2 c := by
  have loop : ∀ (k j : Nat) (m : j_M), j + k = ts.length → m.2.2 L = some (.inr (5, [.ref (L + 1), .int (nI (sta ts j)), .ref 9, .ref (L + 3)])) → Ve m (L + 1) (L + 2) fm → Al m (L + 3) e cap (ts.map (fun τ => τ.1)) → (∀ i, i < j → TbX m (ts.getD i tz) (sta ts i)) → (∀ i, j ≤ i → i < ts.length → ∃ st, TbX m (ts.getD i tz) st) →
      ∃ mem', j_ev (d + 4) (j_ex tb (d + 3)) (j_tab q_Lv_renumber) [] (.inl none) (mem') 7 [some (.ref L), some (.int (nI j))] [] m ∧ Lv mem' L e cap ts fm ∧ mem'.1 = m.1 ∧ mem'.2.1 = m.2.1 ∧ ∀ c, c ≠ L → (∀ τ ∈ ts, c ≠ τ.1) → mem'.2.2 c = m.2.2 c := by
    intro k
    induction k with
    | zero =>
      intro j m hj g1 g2 g3 g4 g5
      have hj : j = ts.length := by omega
      subst hj
      refine ⟨m, ?_, ⟨g1, g2, g3, g4⟩, rfl, rfl, fun _ _ _ => rfl⟩
      have hl := Al_len g3
      have ks := x_ALs (d + 2) g3
      obtain ⟨md, E, a1, a2, a3, a4⟩ := g3
      repeat (first | refine ev_go rfl (by rfl) ?_ | refine ev_gf rfl (by assumption) (by rfl) (by rfl) ?_)
      refine ev_cv (as := []) rfl rfl rfl (by assumption) (by rfl) (by rfl) (ks) ?_
      refine ev_icT rfl (by exact b_le (a := ts.length) (b := ts.length) (by omega) (by omega) (by omega)) ?_
      exact j_ev.ret rfl
    | succ k ih =>
      intro j m hj g1 g2 g3 g4 g5
      have hjl : j < ts.length := by omega
      have hl := Al_len g3
      have hrj := hr.2 _ (trD_mem hjl)
      obtain ⟨st, hT⟩ := g5 j (Nat.le_refl _) hjl
      have g3' := g3
      obtain ⟨md, E, a1, a2, a3, a4⟩ := g3
      have eT : e ≠ (ts.getD j tz).1 := fun q => by
        have := hT.1
        rw [← q, a2] at this
        cases this
      have qT : ∀ i, i < ts.length → (ts.getD i tz).2.1 ≠ (ts.getD j tz).1 := fun i hi q => by
        have h1 := hT.1
        have h2 : ∃ st, TbX m (ts.getD i tz) st := by
          by_cases c : i < j
          · exact ⟨_, g4 i c⟩
          · exact g5 i (by omega) hi
        obtain ⟨st2, _, f, h3, _⟩ := h2
        rw [q, h1] at h3
        cases h3
      -- memory behind setStart, behind the count
      generalize hX : (.inr (9, [.int (nI (sta ts j)), .ref (ts.getD j tz).2.1, .int (nI (ts.getD j tz).2.2.2.1), .long (ts.getD j tz).2.2.2.2]) : j_C) = X
      have s1 : ∀ c, c ≠ (ts.getD j tz).1 → (j_set m (ts.getD j tz).1 X).2.2 c = m.2.2 c := fun c hc => st_ne _ _ hc
      have hT1 : TbX (j_set m (ts.getD j tz).1 X) (ts.getD j tz) (sta ts j) := by
        obtain ⟨_, f, f2, f3⟩ := hT
        exact ⟨by rw [← hX]; exact st_same _ _ _, f, by rw [s1 _ (qT j hjl)]; exact f2, f3⟩
      have hAl1 : Al (j_set m (ts.getD j tz).1 X) (L + 3) e cap (ts.map (fun τ => τ.1)) := ⟨md, E, by rw [s1 _ (by omega)]; exact a1, by rw [s1 _ eT]; exact a2, a3, a4⟩
      generalize hY : (.inr (5, [.ref (L + 1), .int (nI (sta ts (j + 1))), .ref 9, .ref (L + 3)]) : j_C) = Y
      have s2 : ∀ c, c ≠ L → c ≠ (ts.getD j tz).1 → (j_set (j_set m (ts.getD j tz).1 X) L Y).2.2 c = m.2.2 c := fun c c1 c2 => by rw [st_ne _ _ c1]; exact s1 c c2
      have eL : e ≠ L := fun q => by rw [q, g1] at a2; cases a2
      obtain ⟨mem', z1, z2, z3, z4, z5⟩ := ih (j + 1) (j_set (j_set m (ts.getD j tz).1 X) L Y) (by omega) (by rw [← hY]; exact st_same _ _ _)
        ⟨by rw [s2 _ (by omega) (by omega)]; exact g2.1, by rw [s2 _ (by omega) (by omega)]; exact g2.2⟩
        ⟨md, E, by rw [s2 _ (by omega) (by omega)]; exact a1, by rw [s2 _ eL eT]; exact a2, a3, a4⟩
        (fun i hi => by
          by_cases c : i = j
          · subst c
            have := hr.2 _ (trD_mem hjl)
            exact TbX_fr hT1 (st_ne _ _ (by omega)) (st_ne _ _ (by omega))
          · have := hr.2 _ (trD_mem (show i < ts.length by omega))
            exact TbX_fr (g4 i (by omega)) (s2 _ (by omega) (nd_ne hnd (by omega) hjl c)) (s2 _ (by omega) (qT i (by omega))))
        (fun i hi hi2 => by
          obtain ⟨st2, h2⟩ := g5 i (by omega) hi2
          have := hr.2 _ (trD_mem hi2)
          exact ⟨st2, TbX_fr h2 (s2 _ (by omega) (nd_ne hnd hi2 hjl (by omega))) (s2 _ (by omega) (qT i hi2))⟩)
      refine ⟨mem', ?_, z2, z3, z4, fun c c1 c2 => by rw [z5 c c1 c2, s2 c c1 (c2 _ (trD_mem hjl))]⟩
      have ks := x_ALs (d + 2) g3'
      have kg := x_ALg d g3' hjl hc
      have kset := x_Tb_setStart (d + 2) (z := sta ts j) hT
      rw [hX] at kset
      have kg2 := x_ALg d hAl1 hjl hc
      have kc := x_Tb_count (d + 2) hT1
      have t1 := hT.1
      have t2 := hT1.1
      have l1 : (j_set m (ts.getD j tz).1 X).2.2 L = some (.inr (5, [.ref (L + 1), .int (nI (sta ts j)), .ref 9, .ref (L + 3)])) := by rw [s1 _ (by omega)]; exact g1
      have l2 : (j_set m (ts.getD j tz).1 X).2.2 (L + 3) = some (.inr (10, [.int md, .ref e, .int (nI (ts.map (fun τ => τ.1)).length)])) := by rw [s1 _ (by omega)]; exact a1
      rw [← nI_1 j] at z1
      repeat (first | refine ev_go rfl (by rfl) ?_ | refine ev_gf rfl (by assumption) (by rfl) (by rfl) ?_)
      refine ev_cv (as := []) rfl rfl rfl (by assumption) (by rfl) (by rfl) (ks) ?_
      refine ev_icF rfl (by exact b_nle (a := ts.length) (b := j) (by omega) (by omega) (by omega)) ?_
      repeat (first | refine ev_go rfl (by rfl) ?_ | refine ev_gf rfl (by assumption) (by rfl) (by rfl) ?_)
      refine ev_cv (as := [.int (nI j)]) rfl rfl rfl (by assumption) (by rfl) (by rfl) (kg) ?_
      refine ev_cco rfl (by assumption) (by rfl) ?_
      repeat (first | refine ev_go rfl (by rfl) ?_ | refine ev_gf rfl (by assumption) (by rfl) (by rfl) ?_)
      refine ev_cv (as := [.int (nI (sta ts j))]) rfl rfl rfl (by assumption) (by rfl) (by rfl) (kset) ?_
      repeat (first | refine ev_go rfl (by rfl) ?_ | refine ev_gf rfl (by assumption) (by rfl) (by rfl) ?_)
      refine ev_cv (as := [.int (nI j)]) rfl rfl rfl (by assumption) (by rfl) (by rfl) (kg2) ?_
      refine ev_cco rfl (by assumption) (by rfl) ?_
      refine ev_cv (as := []) rfl rfl rfl (by assumption) (by rfl) (by rfl) (kc) ?_
      repeat (first | refine ev_go rfl (by rfl) ?_ | refine ev_gf rfl (by assumption) (by rfl) (by rfl) ?_)
      refine ev_pf rfl l1 (by rfl) (by rfl) (by rfl) ?_
      refine ev_m (mem' := j_set (j_set m (ts.getD j tz).1 X) L Y) (by rw [← hY, sta_s hjl, ← nI_add]; rfl) ?_
      repeat (first | exact z1 | refine ev_go rfl (by rfl) ?_ | refine ev_gf rfl (by assumption) (by rfl) (by rfl) ?_)
  have hL1 := h.1
  obtain ⟨mem', z1, z2, z3, z4, z5⟩ := loop ts.length 0 (j_set mem L (.inr (5, [.ref (L + 1), .int (nI (sta ts 0)), .ref 9, .ref (L + 3)]))) (by omega) (st_same _ _ _)
    ⟨by rw [st_ne _ _ (by omega)]; exact h.2.1.1, by rw [st_ne _ _ (by omega)]; exact h.2.1.2⟩
    (by
      obtain ⟨md, E, a1, a2, a3, a4⟩ := h.2.2.1
      have eL : e ≠ L := fun q => by rw [q, hL1] at a2; cases a2
      exact ⟨md, E, by rw [st_ne _ _ (by omega)]; exact a1, by rw [st_ne _ _ eL]; exact a2, a3, a4⟩)
    (fun i hi => by omega)
    (fun i _ hi => by
      obtain ⟨st, hT⟩ := h.2.2.2 _ (trD_mem hi)
      have := hr.2 _ (trD_mem hi)
      exact ⟨st, TbX_fr hT (st_ne _ _ (by omega)) (st_ne _ _ (by omega))⟩)
  refine ⟨mem', ?_, z2, z3, z4, fun c c1 c2 => by rw [z5 c c1 c2, st_ne _ _ c1]⟩
  refine ⟨e_Lv_renumber, rfl, Nat.le_of_ble_eq_true rfl, ?_⟩
  repeat (first | refine ev_go rfl (by rfl) ?_ | refine ev_gf rfl (by assumption) (by rfl) (by rfl) ?_)
  refine ev_pf rfl (by assumption) (by rfl) (by rfl) (by rfl) ?_
  repeat (first | exact z1 | refine ev_go rfl (by rfl) ?_ | refine ev_gf rfl (by assumption) (by rfl) (by rfl) ?_)
end RENUM
