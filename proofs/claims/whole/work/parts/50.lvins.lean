/-! LEVEL: insert (own text) -/
/-- what a list's growth costs: cells and slots against its array's length -/
def Gr (mem mem' : j_M) (cap cap' : Nat) : Prop := cap ≤ cap' ∧ mem.1 ≤ mem'.1 ∧ mem.2.1 ≤ mem'.2.1 ∧ mem'.1 + cap ≤ mem.1 + cap' ∧ mem'.2.1 + cap * cap ≤ mem.2.1 + cap' * cap'
theorem Gr_refl (mem : j_M) (cap : Nat) : Gr mem mem cap cap := ⟨Nat.le_refl _, Nat.le_refl _, Nat.le_refl _, Nat.le_refl _, Nat.le_refl _⟩
theorem Gr_trans {m1 m2 m3 : j_M} {a b c : Nat} (h : Gr m1 m2 a b) (h' : Gr m2 m3 b c) : Gr m1 m3 a c := by
  obtain ⟨a1, a2, a3, a4, a5⟩ := h
  obtain ⟨b1, b2, b3, b4, b5⟩ := h'
  exact ⟨by omega, by omega, by omega, by omega, by omega⟩
theorem Gr_of {mem mem' : j_M} {l e cap n e' cap' : Nat} (h : Alr mem mem' l e cap n e' cap') : Gr mem mem' cap cap' := by
  rcases h.2 with ⟨_, q2, _, q3, q4⟩ | ⟨_, _, q3, _, q5, q6⟩
  · subst q2
    exact ⟨Nat.le_refl _, by omega, by omega, by omega, by omega⟩
  · refine ⟨by omega, by omega, by omega, by omega, ?_⟩
    rw [q6]
    obtain ⟨z, rfl⟩ : ∃ z, cap' = cap + 1 + z := ⟨cap' - cap - 1, by omega⟩
    have : (cap + 1 + z) * (cap + 1 + z) = cap * cap + (cap + 1 + z) + (cap + z * (cap + 1 + z) + cap * z) := by
      simp only [Nat.add_mul, Nat.mul_add, Nat.mul_one, Nat.one_mul]
      omega
    omega
theorem ins_map {ts fs : List TR} {a t : Nat} (ha : a ≤ ts.length) (ht : t < fs.length) : ((ts.take a ++ fs.take t ++ ts.drop a).map (fun τ => τ.1)).take (a + t) ++ (fs.getD t tz).1 :: ((ts.take a ++ fs.take t ++ ts.drop a).map (fun τ => τ.1)).drop (a + t) = (ts.take a ++ fs.take (t + 1) ++ ts.drop a).map (fun τ => τ.1) := by
  have hl : (ts.take a ++ fs.take t).length = a + t := by rw [List.length_append, List.length_take, List.length_take]; omega
  rw [← List.map_take, ← List.map_drop, List.take_append_of_le_length (by omega), List.take_of_length_le (by omega), List.drop_append_of_le_length (by omega), List.drop_eq_nil_of_le (by omega), List.nil_append]
  rw [show (fs.getD t tz).1 :: (ts.drop a).map (fun τ => τ.1) = [fs.getD t tz].map (fun τ => τ.1) ++ (ts.drop a).map (fun τ => τ.1) from rfl, ← List.map_append, ← List.map_append]
  congr 1
  have e : fs.take (t + 1) = fs.take t ++ [fs.getD t tz] := by
    rw [List.take_succ, List.getElem?_eq_getElem ht, List.getD_eq_getElem?_getD, List.getElem?_eq_getElem ht]
    rfl
  rw [e]
  simp only [List.append_assoc]
theorem ins_len {ts fs : List TR} {a t : Nat} (ha : a ≤ ts.length) (ht : t ≤ fs.length) : (ts.take a ++ fs.take t ++ ts.drop a).length = ts.length + t := by
  rw [List.length_append, List.length_append, List.length_take, List.length_take, List.length_drop]; omega
theorem ins_sub {ts fs : List TR} {a t : Nat} {τ : TR} (h : τ ∈ ts.take a ++ fs.take t ++ ts.drop a) : τ ∈ ts ∨ τ ∈ fs := by
  rcases List.mem_append.mp h with h | h
  · rcases List.mem_append.mp h with h | h
    · exact Or.inl (List.mem_of_mem_take h)
    · exact Or.inr (List.mem_of_mem_take h)
  · exact Or.inl (List.mem_of_mem_drop h)
section INS
variable {mem : j_M} {L e cap ef cf : Nat} {ts fs : List TR} {fm : Nat → Int64}
theorem x_Lv_insert (d : Nat) {a : Nat} (h : Lv mem L e cap ts fm) (hr : Lr mem e cap ts) (hL : 14 ≤ L ∧ L + 3 < 66) (h78 : 78 ≤ mem.1) (hf : Al mem 67 ef cf (fs.map (fun τ => τ.1))) (hef : Ale mem ef cf) (hne : cap ≠ 0 → e ≠ ef)
    (hfT : ∀ τ ∈ fs, ∃ st, TbX mem τ st) (hfr : ∀ τ ∈ fs, 78 ≤ τ.1 ∧ τ.1 < mem.1 ∧ 78 ≤ τ.2.1 ∧ τ.2.1 < mem.1) (hnd : ((ts.take a ++ fs ++ ts.drop a).map (fun τ => τ.1)).Nodup) (hlen : cap < 2000 ∧ ts.length + fs.length < 900) (hcf : cf < 2 ^ 20) (ha : a ≤ ts.length) :
    ∃ e' cap' mem', j_ex tb (d + 6) m_Lv_insert [.ref L, .int (nI a), .ref 67] mem (.inl none) mem' ∧ Lv mem' L e' cap' (ts.take a ++ fs ++ ts.drop a) fm ∧ Lr mem' e' cap' (ts.take a ++ fs ++ ts.drop a) ∧ Gr mem mem' cap cap' ∧ (cap' = cap ∨ cap' ≤ 2 * (ts.length + fs.length) + 10) ∧ ((e' = e ∧ cap' = cap) ∨ mem.1 ≤ e') ∧ ∀ c, c < mem.1 → c ≠ L → c ≠ L + 3 → (c ≠ e ∨ c = 2) → (∀ τ, τ ∈ ts ∨ τ ∈ fs → c ≠ τ.1) → mem'.2.2 c = mem.2.2 c := by
  have eb : e = 2 ∨ 78 ≤ e := by
    by_cases c : cap = 0
    · exact Or.inl (hr.1.1 c)
    · exact Or.inr (hr.1.2 c).1
  have efb : ef = 2 ∨ 78 ≤ ef ∧ ef < mem.1 := by
    by_cases c : cf = 0
    · exact Or.inl (hef.1 c)
    · exact Or.inr (hef.2 c)
  have hfl : fs.length ≤ cf := by
    obtain ⟨_, _, _, _, _, h4⟩ := hf
    rw [List.length_map] at h4
    exact h4
  have loop : ∀ (g t : Nat) (m : j_M) (e1 cap1 : Nat) (c0 : Int32), t + g = fs.length → Lp m L e1 cap1 (ts.take a ++ fs.take t ++ ts.drop a) c0 fm → Ale m e1 cap1 → Al m 67 ef cf (fs.map (fun τ => τ.1)) → Gr mem m cap cap1 → (cap1 = cap ∨ cap1 ≤ 2 * (ts.length + fs.length) + 10) → ((e1 = e ∧ cap1 = cap) ∨ mem.1 ≤ e1) → (∀ c, c < mem.1 → c ≠ L + 3 → (c ≠ e ∨ c = 2) → m.2.2 c = mem.2.2 c) →
      ∃ e' cap' mem', j_ev (d + 6) (j_ex tb (d + 5)) (j_tab q_Lv_insert) [] (.inl none) (mem') 2 [some (.ref L), some (.int (nI a)), some (.ref 67), some (.int (nI t))] [] m ∧ Lv mem' L e' cap' (ts.take a ++ fs ++ ts.drop a) fm ∧ Lr mem' e' cap' (ts.take a ++ fs ++ ts.drop a) ∧ Gr mem mem' cap cap' ∧ (cap' = cap ∨ cap' ≤ 2 * (ts.length + fs.length) + 10) ∧ ((e' = e ∧ cap' = cap) ∨ mem.1 ≤ e') ∧ ∀ c, c < mem.1 → c ≠ L → c ≠ L + 3 → (c ≠ e ∨ c = 2) → (∀ τ, τ ∈ ts ∨ τ ∈ fs → c ≠ τ.1) → mem'.2.2 c = mem.2.2 c := by
    intro g
    induction g with
    | zero =>
      intro t m e1 cap1 c0 ht g1 g2 g3 g4 g5 g6 g7
      have ht : t = fs.length := by omega
      subst ht
      rw [List.take_length] at g1
      have hcap : cap1 < 2 ^ 20 := by omega
      have hr1 : Lr m e1 cap1 (ts.take a ++ fs ++ ts.drop a) := by
        refine ⟨g2, fun τ hτ => ?_⟩
        rw [← List.take_length (l := fs)] at hτ
        have g41 := g4.2.1
        rcases ins_sub hτ with q | q
        · have := hr.2 τ q; omega
        · have := hfr τ q; omega
      obtain ⟨mem', z1, z2, z3, z4, z5⟩ := x_Lv_renumber (d + 1) g1 hr1 hnd (by omega) hcap
      refine ⟨e1, cap1, mem', ?_, z2, ⟨⟨hr1.1.1, by rw [z3]; exact hr1.1.2⟩, by rw [z3]; exact hr1.2⟩, ⟨g4.1, by rw [z3]; exact g4.2.1, by rw [z4]; exact g4.2.2.1, by rw [z3]; exact g4.2.2.2.1, by rw [z4]; exact g4.2.2.2.2⟩, g5, g6, fun c c0 c1 c2 c3 c4 => ?_⟩
      · have l1 := g1.1
        have ks := x_AL_size (d + 4) g3
        rw [List.length_map] at ks
        obtain ⟨md, E, a1, a2, a3, a4⟩ := g3
        repeat (first | refine ev_go rfl (by rfl) ?_ | refine ev_gf rfl (by assumption) (by rfl) (by rfl) ?_)
        refine ev_cv (as := []) rfl rfl rfl (by assumption) (by rfl) (by rfl) (ks) ?_
        refine ev_icT rfl (by exact b_le (a := fs.length) (b := fs.length) (by omega) (by omega) (by omega)) ?_
        repeat (first | refine ev_go rfl (by rfl) ?_ | refine ev_gf rfl (by assumption) (by rfl) (by rfl) ?_)
        refine ev_cv (as := []) rfl rfl rfl (by assumption) (by rfl) (by rfl) (z1) ?_
        exact j_ev.ret rfl
      · rw [z5 c c1 (fun τ hτ => c4 τ (by rw [← List.take_length (l := fs)] at hτ; exact ins_sub hτ)), g7 c c0 c2 c3]
    | succ g ih =>
      intro t m e1 cap1 c0 ht g1 g2 g3 g4 g5 g6 g7
      have htl : t < fs.length := by omega
      have hcap : cap1 < 2 ^ 20 := by omega
      have hlc := ins_len (ts := ts) (fs := fs) (a := a) (t := t) ha (by omega)
      have hm1 := g4.2.1
      have e1b : e1 = 2 ∨ 78 ≤ e1 ∧ e1 < m.1 := by
        by_cases c : cap1 = 0
        · exact Or.inl (g2.1 c)
        · exact Or.inr (g2.2 c)
      have rngs : ∀ τ ∈ ts.take a ++ fs.take t ++ ts.drop a, 78 ≤ τ.1 ∧ τ.1 < mem.1 ∧ 78 ≤ τ.2.1 ∧ τ.2.1 < mem.1 := fun τ hτ => by
        rcases ins_sub hτ with q | q
        · exact hr.2 τ q
        · exact hfr τ q
      have hrt := hfr _ (trD_mem htl)
      obtain ⟨st0, hX0⟩ := hfT _ (trD_mem htl)
      have notE : ∀ c x, mem.2.2 c = some x → (∀ z, x ≠ .inl z) → c ≠ e := fun c x hx hz q => by
        obtain ⟨_, _, _, a2, _⟩ := h.2.2.1
        rw [q, a2] at hx
        cases hx
        exact hz _ rfl
      have notE2 : ∀ c k z, mem.2.2 c = some (.inl (k, z)) → k ≠ 6 → c ≠ e := fun c k z hx hk q => by
        obtain ⟨_, _, _, a2, _⟩ := h.2.2.1
        rw [q, a2] at hx
        cases hx
        exact hk rfl
      have hXm : TbX m (fs.getD t tz) st0 := by
        refine TbX_fr hX0 (g7 _ hrt.2.1 (by omega) (Or.inl (notE _ _ hX0.1 (fun z q => by cases q)))) (g7 _ hrt.2.2.2 (by omega) (Or.inl ?_))
        obtain ⟨_, f, hq, _⟩ := hX0
        exact notE2 _ _ _ hq (by omega)
      have hTs : Tbs m ((ts.take a ++ fs.take t ++ ts.drop a).map (fun τ => τ.1)) := fun y hy => by
        obtain ⟨τ, hτ, rfl⟩ := List.mem_map.mp hy
        obtain ⟨st, q⟩ := g1.2.2.2 τ hτ
        have := rngs τ hτ
        exact ⟨by omega, by omega, _, q.1⟩
      obtain ⟨e2, cap2, m2, r1, r2, r3, r4⟩ := x_AL_add2 d (i := a + t) (t := (fs.getD t tz).1) g1.2.2.1 (by rw [List.length_map, hlc]; omega) g2 hTs (by omega) (by omega) hcap
        (fun y hy => by
          rw [List.mem_singleton] at hy
          subst hy
          exact ⟨by omega, by omega, _, hXm.1⟩) (by omega) (by omega) (by omega)
      rw [ins_map ha htl] at r2
      rw [List.length_map, hlc] at r4
      have hG := Gr_of r4
      have e2b : (e2 = e1 ∧ cap2 = cap1 ∧ 78 ≤ e2) ∨ e2 = m.1 := by
        rcases r4.2 with ⟨q1, q2, q3, _⟩ | ⟨_, q2, _⟩
        · have := g2.2 (by omega)
          exact Or.inl ⟨q1, q2, by omega⟩
        · exact Or.inr q2
      have e2c : 78 ≤ e2 := by omega
      have e2x : e2 = e ∨ mem.1 ≤ e2 := by
        rcases e2b with ⟨q1, _⟩ | q1
        · rcases g6 with ⟨q2, _⟩ | q2 <;> omega
        · omega
      have e2f : ef ≠ e2 := by
        rcases e2b with ⟨q1, q2, q3⟩ | q1
        · rcases g6 with ⟨q4, q5⟩ | q4
          · have : cap ≠ 0 := fun z => by have := hr.1.1 z; omega
            have := hne this
            omega
          · omega
        · omega
      have hP2 : Lp m2 L e2 cap2 (ts.take a ++ fs.take (t + 1) ++ ts.drop a) c0 fm := by
        refine ⟨by rw [r4.1 _ (by omega) (by omega)]; exact g1.1, ⟨by rw [r4.1 _ (by omega) (by omega)]; exact g1.2.1.1, by rw [r4.1 _ (by omega) (by omega)]; exact g1.2.1.2⟩, r2, fun τ hτ => ?_⟩
        have hcs : (τ ∈ ts.take a ++ fs.take t ++ ts.drop a) ∨ τ = fs.getD t tz := by
          rw [List.take_succ, List.getElem?_eq_getElem htl] at hτ
          rw [List.getD_eq_getElem?_getD, List.getElem?_eq_getElem htl]
          simp only [List.mem_append, Option.toList_some, List.mem_singleton] at hτ ⊢
          rcases hτ with (q | q | q) | q
          · exact Or.inl (Or.inl (Or.inl q))
          · exact Or.inl (Or.inl (Or.inr q))
          · exact Or.inr q
          · exact Or.inl (Or.inr q)
        have htr : ∀ st, TbX m τ st → (τ.1 < mem.1 ∧ τ.2.1 < mem.1 ∧ 78 ≤ τ.1 ∧ 78 ≤ τ.2.1) → TbX m2 τ st := fun st q hq => by
          have n1 : τ.1 ≠ e2 := fun z => by
            rcases e2b with ⟨q1, _, _⟩ | q1
            · have h1 := q.1
              obtain ⟨_, _, _, a2, _⟩ := g1.2.2.1
              rw [z, q1, a2] at h1
              cases h1
            · omega
          have n2 : τ.2.1 ≠ e2 := fun z => by
            rcases e2b with ⟨q1, _, _⟩ | q1
            · obtain ⟨_, f, h1, _⟩ := q
              obtain ⟨_, _, _, a2, _⟩ := g1.2.2.1
              rw [z, q1, a2] at h1
              cases h1
            · omega
          exact TbX_fr q (r4.1 _ (by omega) n1) (r4.1 _ (by omega) n2)
        rcases hcs with q | q
        · obtain ⟨st, hq⟩ := g1.2.2.2 τ q
          have := rngs τ q
          exact ⟨st, htr st hq ⟨by omega, by omega, by omega, by omega⟩⟩
        · subst q
          exact ⟨st0, htr st0 hXm ⟨by omega, by omega, by omega, by omega⟩⟩
      have hA2 : Al m2 67 ef cf (fs.map (fun τ => τ.1)) := by
        obtain ⟨md, E, a1, a2, a3, a4⟩ := g3
        exact ⟨md, E, by rw [r4.1 _ (by omega) (by omega)]; exact a1, by rw [r4.1 _ (by omega) e2f]; exact a2, a3, a4⟩
      obtain ⟨e', cap', mem', z1, z2⟩ := ih (t + 1) m2 e2 cap2 c0 (by omega) hP2 r3 hA2 (Gr_trans g4 hG) (by
          rcases r4.2 with ⟨_, q2, _⟩ | ⟨q1, _, _, q4, _⟩
          · rw [q2]; exact g5
          · exact Or.inr (by omega)) (by
          rcases e2b with ⟨q1, q2, _⟩ | q1
          · rcases g6 with ⟨q3, q4⟩ | q3
            · exact Or.inl ⟨by omega, by omega⟩
            · exact Or.inr (by omega)
          · exact Or.inr (by omega)) (fun c c0 c1 c2 => by
          rw [r4.1 c c1 (by omega), g7 c c0 c1 c2])
      refine ⟨e', cap', mem', ?_, z2⟩
      have l1 := g1.1
      have ks := x_AL_size (d + 4) g3
      rw [List.length_map] at ks
      have ks2 := x_ALs (d + 4) g1.2.2.1
      rw [hlc] at ks2
      have kg := x_AL_get (d + 2) (i := t) g3 (by rw [List.length_map]; exact htl) (by omega)
      rw [getD_map1] at kg
      obtain ⟨md, E, a1, a2, a3, a4⟩ := g3
      obtain ⟨md1, E1, b1, b2, b3, b4⟩ := g1.2.2.1
      have t1 := hXm.1
      have ea : nI a + nI t = nI (a + t) := nI_add _ _
      rw [← ea] at r1
      rw [← nI_1 t] at z1
      repeat (first | refine ev_go rfl (by rfl) ?_ | refine ev_gf rfl (by assumption) (by rfl) (by rfl) ?_)
      refine ev_cv (as := []) rfl rfl rfl (by assumption) (by rfl) (by rfl) (ks) ?_
      refine ev_icF rfl (by exact b_nle (a := fs.length) (b := t) (by omega) (by omega) (by omega)) ?_
      repeat (first | refine ev_go rfl (by rfl) ?_ | refine ev_gf rfl (by assumption) (by rfl) (by rfl) ?_)
      refine ev_ifF rfl (by exact b_nlt (a := a) (b := 0) (by omega) (by omega) (by omega)) ?_
      repeat (first | refine ev_go rfl (by rfl) ?_ | refine ev_gf rfl (by assumption) (by rfl) (by rfl) ?_)
      refine ev_cv (as := []) rfl rfl rfl (by assumption) (by rfl) (by rfl) (ks2) ?_
      refine ev_s (st' := [.int (nI (ts.length + t)), .int (nI (a + t))]) (by rw [← ea]; rfl) ?_
      refine ev_icF rfl (by exact b_nlt (a := ts.length + t) (b := a + t) (by omega) (by omega) (by omega)) ?_
      repeat (first | refine ev_go rfl (by rfl) ?_ | refine ev_gf rfl (by assumption) (by rfl) (by rfl) ?_)
      refine ev_cv (as := [.int (nI t)]) rfl rfl rfl (by assumption) (by rfl) (by rfl) (kg) ?_
      refine ev_cco rfl (by assumption) (by rfl) ?_
      refine ev_cv (as := [.int (nI a + nI t), .ref (fs.getD t tz).1]) rfl rfl rfl (by assumption) (by rfl) (by rfl) (r1) ?_
      repeat (first | exact z1 | refine ev_go rfl (by rfl) ?_ | refine ev_gf rfl (by assumption) (by rfl) (by rfl) ?_)
  obtain ⟨e', cap', mem', z1, z2⟩ := loop fs.length 0 mem e cap (nI (sta ts ts.length)) (by omega) (by rw [List.take_zero, List.append_nil, List.take_append_drop]; exact Lv_Lp h) hr.1 hf (Gr_refl _ _) (Or.inl rfl) (Or.inl ⟨rfl, rfl⟩) (fun _ _ _ _ => rfl)
  refine ⟨e', cap', mem', ?_, z2⟩
  refine ⟨e_Lv_insert, rfl, Nat.le_of_ble_eq_true rfl, ?_⟩
  repeat (first | exact z1 | refine ev_go rfl (by rfl) ?_ | refine ev_gf rfl (by assumption) (by rfl) (by rfl) ?_)
end INS
