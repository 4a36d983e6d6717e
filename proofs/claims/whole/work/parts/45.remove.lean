/-! ARRAYLIST: add, remove, clear (own text) -/
theorem getD_app {xs : List Nat} {t j : Nat} (hj : j < xs.length + 1) : (xs ++ [t]).getD j 0 = if j < xs.length then xs.getD j 0 else t := by
  simp only [List.getD_eq_getElem?_getD]
  by_cases h : j < xs.length
  · rw [if_pos h, List.getElem?_append_left h]
  · rw [if_neg h, List.getElem?_append_right (by omega), show j - xs.length = 0 by omega]; rfl
theorem getD_rem {xs : List Nat} {i j : Nat} (hi : i < xs.length) : (xs.take i ++ xs.drop (i + 1)).getD j 0 = if j < i then xs.getD j 0 else xs.getD (j + 1) 0 := by
  simp only [List.getD_eq_getElem?_getD]
  by_cases h1 : j < i
  · rw [if_pos h1, List.getElem?_append_left (by rw [List.length_take]; omega), List.getElem?_take_of_lt h1]
  · rw [if_neg h1, List.getElem?_append_right (by rw [List.length_take]; omega), List.length_take, Nat.min_eq_left (by omega), List.getElem?_drop]
    congr 2
    omega
section ADD1
variable {mem : j_M} {l e cap : Nat} {xs : List Nat}
theorem x_AL_add1 (d : Nat) {t : Nat} (h : Al mem l e cap xs) (hA : Ale mem e cap) (hT : Tbs mem xs) (hl : l < mem.1) (h78 : 78 ≤ mem.1) (hc : cap < 2 ^ 20) (ht : Tbs mem [t]) (hle : l ≠ e) (htl : t ≠ l) (hl4 : 4 ≤ l) :
    ∃ e' cap' mem', j_ex tb (d + 6) m_AL_add_1 [.ref l, .ref t] mem (.inl (some (.int 1))) mem' ∧ Al mem' l e' cap' (xs ++ [t]) ∧ Ale mem' e' cap' ∧ Alr mem mem' l e cap xs.length e' cap' := by
  obtain ⟨md, E, h1, h2, h3, h4⟩ := h
  obtain ⟨t4, tm, tf, tfs⟩ := ht t List.mem_cons_self
  have hTl : ∀ y ∈ xs, y ≠ l := fun y hy q => by
    obtain ⟨_, _, fs, q3⟩ := hT y hy
    rw [q, h1] at q3
    cases q3
  have klen : (xs ++ [t]).length = xs.length + 1 := by rw [List.length_append]; rfl
  have fin : ∀ (m : j_M) (a n' : Nat) (F : Nat → Option Nat) (md' : Int32) (mo : j_M), m.2.2 l = some (.inr (10, [.int md', .ref a, .int (nI xs.length)])) → m.2.2 a = some (aE n' F) → xs.length < n' → n' < 2 ^ 30 → 4 ≤ a → a ≠ l → m.2.2 t = mem.2.2 t →
      mo = j_set (j_set m a (aE n' (va_up F xs.length (some t)))) l (.inr (10, [.int md', .ref a, .int (nI (xs.length + 1))])) →
      j_ev (d + 5) (j_ex tb (d + 4)) (j_tab q_AL_add_3) [] (.inl none) (mo) 11 [some (.ref l), some (.ref t), some (.ref a), some (.int (nI xs.length))] [] m := by
    intro m a n' F md' mo g1 g2 g3 g4 g6 g7 g8 hmo
    subst hmo
    rw [← nI_1 xs.length]
    have i2 : (j_set m a (aE n' (va_up F xs.length (some t)))).2.2 l = some (.inr (10, [.int md', .ref a, .int (nI xs.length)])) := by rw [st_ne _ _ (Ne.symm g7)]; exact g1
    repeat (first | refine ev_go rfl (by rfl) ?_ | refine ev_gf rfl (by assumption) (by rfl) (by rfl) ?_)
    refine ev_aqN' (i := xs.length) rfl g2 (by rw [g8, tfs]; rfl) (by omega) (by omega) g6 t4 ?_
    repeat (first | refine ev_go rfl (by rfl) ?_ | refine ev_gf rfl (by assumption) (by rfl) (by rfl) ?_)
    refine ev_pf rfl i2 (by rfl) (by rfl) (by rfl) ?_
    exact j_ev.ret rfl
  have cont : ∀ (F : Nat → Option Nat), (∀ i, i < xs.length → F i = some (xs.getD i 0)) → ∀ j, j < (xs ++ [t]).length → va_up F xs.length (some t) j = some ((xs ++ [t]).getD j 0) := by
    intro F hF j hj
    rw [klen] at hj
    rw [getD_app hj]
    by_cases c1 : j < xs.length
    · rw [if_pos c1, va_up_ne _ _ (by omega), hF j c1]
    · rw [if_neg c1, show j = xs.length by omega, va_up_self]
  have m1 : (j_set mem l (.inr (10, [.int (md + 1), .ref e, .int (nI xs.length)]))).2.2 l = some (.inr (10, [.int (md + 1), .ref e, .int (nI xs.length)])) := st_same _ _ _
  have m2 : (j_set mem l (.inr (10, [.int (md + 1), .ref e, .int (nI xs.length)]))).2.2 e = some (aE cap E) := by rw [st_ne _ _ (Ne.symm hle)]; exact h2
  have pre : ∀ (mo : j_M), j_ev (d + 5) (j_ex tb (d + 4)) (j_tab q_AL_add_3) [] (.inl none) (mo) 3 [some (.ref l), some (.ref t), some (.ref e), some (.int (nI xs.length))] [.int (nI cap), .int (nI xs.length)] (j_set mem l (.inr (10, [.int (md + 1), .ref e, .int (nI xs.length)]))) → j_ex tb (d + 6) m_AL_add_1 [.ref l, .ref t] mem (.inl (some (.int 1))) mo := by
    intro mo hk
    have k3 : j_ex tb (d + 5) m_AL_add_3 [.ref l, .ref t, .ref e, .int (nI xs.length)] (j_set mem l (.inr (10, [.int (md + 1), .ref e, .int (nI xs.length)]))) (.inl none) mo := by
      refine ⟨e_AL_add_3, rfl, Nat.le_of_ble_eq_true rfl, ?_⟩
      repeat (first | refine ev_go rfl (by rfl) ?_ | refine ev_gf rfl (by assumption) (by rfl) (by rfl) ?_)
      refine ev_an rfl (by assumption) (by rfl) ?_
      exact hk
    refine ⟨e_AL_add_1, rfl, Nat.le_of_ble_eq_true rfl, ?_⟩
    repeat (first | refine ev_go rfl (by rfl) ?_ | refine ev_gf rfl (by assumption) (by rfl) (by rfl) ?_)
    refine ev_pf rfl (by assumption) (by rfl) (by rfl) (by rfl) ?_
    refine ev_m (mem' := j_set mem l (.inr (10, [.int (md + 1), .ref e, .int (nI xs.length)]))) rfl ?_
    repeat (first | refine ev_go rfl (by rfl) ?_ | refine ev_gf rfl (by assumption) (by rfl) (by rfl) ?_)
    refine ev_cv (as := [.ref t, .ref e, .int (nI xs.length)]) rfl rfl rfl (by assumption) (by rfl) (by rfl) (k3) ?_
    repeat (first | refine ev_go rfl (by rfl) ?_ | refine ev_gf rfl (by assumption) (by rfl) (by rfl) ?_)
    exact j_ev.ret rfl
  by_cases cf : xs.length < cap
  · have e78 := hA.2 (by omega)
    refine ⟨e, cap, j_set (j_set (j_set mem l (.inr (10, [.int (md + 1), .ref e, .int (nI xs.length)]))) e (aE cap (va_up E xs.length (some t)))) l (.inr (10, [.int (md + 1), .ref e, .int (nI (xs.length + 1))])), pre _ ?_, ?_, ?_, ?_⟩
    rotate_left
    · exact ⟨md + 1, _, by rw [klen]; exact st_same _ _ _, by rw [st_ne _ _ (Ne.symm hle)]; exact st_same _ _ _, cont E h3, by rw [klen]; omega⟩
    · exact hA
    · refine ⟨fun c c1 c2 => ?_, Or.inl ⟨rfl, rfl, cf, rfl, rfl⟩⟩
      rw [st_ne _ _ c1, st_ne _ _ c2, st_ne _ _ c1]
    · refine ev_icT rfl (by exact b_ne (a := xs.length) (b := cap) (by omega) (by omega) (by omega)) ?_
      exact fin _ e cap E (md + 1) _ m1 m2 cf (by omega) (by omega) (Ne.symm hle) (st_ne _ _ htl) rfl
  · have hfull : xs.length = cap := by omega
    have hT1 : Tbs (j_set mem l (.inr (10, [.int (md + 1), .ref e, .int (nI xs.length)]))) xs := fun y hy => by
      obtain ⟨q1, q2, fs, q3⟩ := hT y hy
      exact ⟨q1, q2, fs, by rw [st_ne _ _ (hTl y hy)]; exact q3⟩
    obtain ⟨cap', E', a1, a2, a3, a4⟩ := x_room d m1 m2 h3 hfull hA hT1 hl h78 hc
    have hlm : l ≠ mem.1 := by omega
    have r1 : ∀ c x y, c ≠ l → c ≠ mem.1 → (j_set (j_new (j_set mem l x) cap' (some (aE cap' E'))) l y).2.2 c = mem.2.2 c := fun c x y c1 c2 => by
      rw [st_ne _ _ c1, nw_ne _ _ _ (show c ≠ (j_set mem l x).1 from c2), st_ne _ _ c1]
    have r2 : ∀ x y, (j_set (j_new (j_set mem l x) cap' (some (aE cap' E'))) l y).2.2 mem.1 = some (aE cap' E') := fun x y => by
      rw [st_ne _ _ (Ne.symm hlm)]; exact nw_same _ _ _
    refine ⟨mem.1, cap', j_set (j_set (j_set (j_new (j_set mem l (.inr (10, [.int (md + 1), .ref e, .int (nI xs.length)]))) cap' (some (aE cap' E'))) l (.inr (10, [.int (md + 1), .ref mem.1, .int (nI xs.length)]))) mem.1 (aE cap' (va_up E' xs.length (some t)))) l (.inr (10, [.int (md + 1), .ref mem.1, .int (nI (xs.length + 1))])), pre _ ?_, ?_, ?_, ?_⟩
    rotate_left
    · exact ⟨md + 1, _, by rw [klen]; exact st_same _ _ _, by rw [st_ne _ _ (Ne.symm hlm)]; exact st_same _ _ _, cont E' a3, by rw [klen]; omega⟩
    · exact ⟨fun q => by omega, fun _ => ⟨h78, Nat.lt_succ_self _⟩⟩
    · refine ⟨fun c c1 c3 => ?_, Or.inr ⟨hfull, rfl, a1, a2, rfl, rfl⟩⟩
      rw [st_ne _ _ c1, st_ne _ _ c3, r1 c _ _ c1 c3]
    · refine ev_icF rfl (by exact b_nne (a := xs.length) (b := cap) (by omega) (by omega) (by omega)) ?_
      repeat (first | refine ev_go rfl (by rfl) ?_ | refine ev_gf rfl (by assumption) (by rfl) (by rfl) ?_)
      refine ev_cv (as := []) rfl rfl rfl (by assumption) (by rfl) (by rfl) (a4) ?_
      refine j_ev.go rfl ?_
      exact fin _ mem.1 cap' E' (md + 1) _ (st_same _ _ _) (r2 _ _) (by omega) (by omega) (by omega) (Ne.symm hlm) (r1 _ _ _ htl (by omega)) rfl
theorem x_AL_remove (d : Nat) {i : Nat} (h : Al mem l e cap xs) (hi : i < xs.length) (he : 4 ≤ e) (hT : Tbs mem xs) (hc : cap < 2 ^ 20) (hle : l ≠ e) :
    ∃ mem', j_ex tb (d + 3) m_AL_remove [.ref l, .int (nI i)] mem (.inl (some (.ref (xs.getD i 0)))) mem' ∧ Al mem' l e cap (xs.take i ++ xs.drop (i + 1)) ∧ mem'.1 = mem.1 ∧ mem'.2.1 = mem.2.1 ∧ ∀ c, c ≠ l → c ≠ e → mem'.2.2 c = mem.2.2 c := by
  obtain ⟨md, E, h1, h2, h3, h4⟩ := h
  have hTl : ∀ y ∈ xs, y ≠ l := fun y hy q => by
    obtain ⟨_, _, fs, q3⟩ := hT y hy
    rw [q, h1] at q3
    cases q3
  have klen : (xs.take i ++ xs.drop (i + 1)).length = xs.length - 1 := by
    rw [List.length_append, List.length_take, List.length_drop]; omega
  have m1 : (j_set mem l (.inr (10, [.int (md + 1), .ref e, .int (nI xs.length)]))).2.2 l = some (.inr (10, [.int (md + 1), .ref e, .int (nI xs.length)])) := st_same _ _ _
  have m2 : (j_set mem l (.inr (10, [.int (md + 1), .ref e, .int (nI xs.length)]))).2.2 e = some (aE cap E) := by rw [st_ne _ _ (Ne.symm hle)]; exact h2
  have es : nI xs.length - 1 = nI (xs.length - 1) := pk_sub (b := 1) (by omega)
  -- behind the copy
  have fin : ∀ (F : Nat → Option Nat) (m mo : j_M), m.2.2 l = some (.inr (10, [.int (md + 1), .ref e, .int (nI xs.length)])) → m.2.2 e = some (aE cap F) → mo = j_set (j_set m l (.inr (10, [.int (md + 1), .ref e, .int (nI (xs.length - 1))]))) e (aE cap (va_up F (xs.length - 1) none)) →
      j_ev (d + 2) (j_ex tb (d + 1)) (j_tab q_AL_fastRemove) [] (.inl none) (mo) 34 [some (.ref l), some (.ref e), some (.int (nI i)), some (.int (nI (xs.length - 1)))] [] m := by
    intro F m mo g1 g2 hmo
    subst hmo
    repeat (first | refine ev_go rfl (by rfl) ?_ | refine ev_gf rfl (by assumption) (by rfl) (by rfl) ?_)
    refine ev_pf rfl g1 (by rfl) (by rfl) (by rfl) ?_
    refine ev_m (mem' := j_set m l (.inr (10, [.int (md + 1), .ref e, .int (nI (xs.length - 1))]))) rfl ?_
    repeat (first | refine ev_go rfl (by rfl) ?_ | refine ev_gf rfl (by assumption) (by rfl) (by rfl) ?_)
    refine ev_aqN (b := e) (len := cap) (f := F) rfl (by rw [st_ne _ _ (Ne.symm hle)]; exact g2) (i_in' (by omega) (by omega)) (Nat.ble_eq.mpr he) ?_
    rw [nI_clamp (by omega)]
    exact j_ev.ret rfl
  have kf : ∀ mo, j_ev (d + 2) (j_ex tb (d + 1)) (j_tab q_AL_fastRemove) [] (.inl none) (mo) 19 [some (.ref l), some (.ref e), some (.int (nI i)), some (.int (nI (xs.length - 1)))] [.int (nI i), .int (nI (xs.length - 1))] (j_set mem l (.inr (10, [.int (md + 1), .ref e, .int (nI xs.length)]))) → j_ex tb (d + 3) m_AL_remove [.ref l, .int (nI i)] mem (.inl (some (.ref (xs.getD i 0)))) mo := by
    intro mo hk
    have k2 : j_ex tb (d + 2) m_AL_fastRemove [.ref l, .ref e, .int (nI i)] mem (.inl none) mo := by
      rw [← es] at hk
      refine ⟨e_AL_fastRemove, rfl, Nat.le_of_ble_eq_true rfl, ?_⟩
      repeat (first | refine ev_go rfl (by rfl) ?_ | refine ev_gf rfl (by assumption) (by rfl) (by rfl) ?_)
      refine ev_pf rfl (by assumption) (by rfl) (by rfl) (by rfl) ?_
      refine ev_m (mem' := j_set mem l (.inr (10, [.int (md + 1), .ref e, .int (nI xs.length)]))) rfl ?_
      repeat (first | exact hk | refine ev_go rfl (by rfl) ?_ | refine ev_gf rfl (by assumption) (by rfl) (by rfl) ?_)
    refine ⟨e_AL_remove, rfl, Nat.le_of_ble_eq_true rfl, ?_⟩
    repeat (first | refine ev_go rfl (by rfl) ?_ | refine ev_gf rfl (by assumption) (by rfl) (by rfl) ?_)
    refine j_ev.call rfl (x_Ob_check d hi (by omega)) ?_
    repeat (first | refine ev_go rfl (by rfl) ?_ | refine ev_gf rfl (by assumption) (by rfl) (by rfl) ?_)
    refine ev_alqN (i := i) rfl (by assumption) (by rfl) (by omega) (by omega) ?_
    rw [h3 i hi]
    repeat (first | refine ev_go rfl (by rfl) ?_ | refine ev_gf rfl (by assumption) (by rfl) (by rfl) ?_)
    refine ev_cv (as := [.ref e, .int (nI i)]) rfl rfl rfl (by assumption) (by rfl) (by rfl) (k2) ?_
    repeat (first | refine ev_go rfl (by rfl) ?_ | refine ev_gf rfl (by assumption) (by rfl) (by rfl) ?_)
    exact j_ev.ret rfl
  by_cases cl : i < xs.length - 1
  · refine ⟨j_set (j_set (j_set (j_set mem l (.inr (10, [.int (md + 1), .ref e, .int (nI xs.length)]))) e (aE cap (va_cpy E E (i + 1) i (xs.length - 1 - i)))) l (.inr (10, [.int (md + 1), .ref e, .int (nI (xs.length - 1))]))) e (aE cap (va_up (va_cpy E E (i + 1) i (xs.length - 1 - i)) (xs.length - 1) none)), kf _ ?_, ?_, rfl, rfl, fun c c1 c2 => ?_⟩
    · refine ev_icF rfl (by exact b_nle (a := xs.length - 1) (b := i) (by omega) (by omega) (by omega)) ?_
      repeat (first | refine ev_go rfl (by rfl) ?_ | refine ev_gf rfl (by assumption) (by rfl) (by rfl) ?_)
      refine ev_s (st' := [.int (nI (xs.length - 1 - i)), .int (nI i), .ref e, .int (nI (i + 1)), .ref e]) (by rw [← pk_sub (by omega : i ≤ xs.length - 1), ← nI_1 i]) ?_
      refine ev_cpqN rfl m2 m2 (by omega) (by omega) (by omega) (by omega) (by omega) he he (by decide) ?_ ?_
      · unfold j_allq
        refine List.all_eq_true.mpr fun j hj => ?_
        have hj := List.mem_range.mp hj
        rw [h3 (i + 1 + j) (by omega)]
        have hm := getD_mem (xs := xs) (i := i + 1 + j) (by omega)
        obtain ⟨q1, q2, fs, q3⟩ := hT _ hm
        show (j_fit 6 ((j_set mem l _).2.2 (xs.getD (i + 1 + j) 0)) && Nat.ble 4 (xs.getD (i + 1 + j) 0)) = true
        rw [st_ne _ _ (hTl _ hm), q3, Nat.ble_eq.mpr q1]
        rfl
      · exact fin _ _ _ (by rw [st_ne _ _ hle]; exact m1) (st_same _ _ _) rfl
    · refine ⟨md + 1, va_up (va_cpy E E (i + 1) i (xs.length - 1 - i)) (xs.length - 1) none, by rw [klen, st_ne _ _ hle]; exact st_same _ _ _, st_same _ _ _, fun j hj => ?_, by rw [klen]; omega⟩
      rw [klen] at hj
      rw [getD_rem hi, va_up_ne _ _ (by omega)]
      by_cases c1 : j < i
      · rw [if_pos c1, pk_cpy_out (Or.inl (by omega)), h3 j (by omega)]
      · rw [if_neg c1, pk_cpy_in (by omega) (by omega), show i + 1 + (j - i) = j + 1 by omega, h3 (j + 1) (by omega)]
    · rw [st_ne _ _ c2, st_ne _ _ c1, st_ne _ _ c2, st_ne _ _ c1]
  · have cl : i = xs.length - 1 := by omega
    refine ⟨j_set (j_set (j_set mem l (.inr (10, [.int (md + 1), .ref e, .int (nI xs.length)]))) l (.inr (10, [.int (md + 1), .ref e, .int (nI (xs.length - 1))]))) e (aE cap (va_up E (xs.length - 1) none)), kf _ ?_, ?_, rfl, rfl, fun c c1 c2 => ?_⟩
    · refine ev_icT rfl (by exact b_le (a := xs.length - 1) (b := i) (by omega) (by omega) (by omega)) ?_
      exact fin _ _ _ m1 m2 rfl
    · refine ⟨md + 1, va_up E (xs.length - 1) none, by rw [klen, st_ne _ _ hle]; exact st_same _ _ _, st_same _ _ _, fun j hj => ?_, by rw [klen]; omega⟩
      rw [klen] at hj
      rw [getD_rem hi, va_up_ne _ _ (by omega), if_pos (by omega), h3 j (by omega)]
    · rw [st_ne _ _ c2, st_ne _ _ c1, st_ne _ _ c1]
theorem x_AL_clear (d : Nat) (h : Al mem l e cap xs) (he : xs.length ≠ 0 → 4 ≤ e) (hc : cap < 2 ^ 20) (hle : l ≠ e) :
    ∃ mem', j_ex tb (d + 1) m_AL_clear [.ref l] mem (.inl none) mem' ∧ Al mem' l e cap [] ∧ mem'.1 = mem.1 ∧ mem'.2.1 = mem.2.1 ∧ ∀ c, c ≠ l → (c ≠ e ∨ xs.length = 0) → mem'.2.2 c = mem.2.2 c := by
  obtain ⟨md, E, h1, h2, h3, h4⟩ := h
  have m1 : (j_set mem l (.inr (10, [.int (md + 1), .ref e, .int (nI xs.length)]))).2.2 l = some (.inr (10, [.int (md + 1), .ref e, .int (nI xs.length)])) := st_same _ _ _
  have loop : ∀ (k i : Nat) (F : Nat → Option Nat) (m : j_M), i + k = xs.length → m.2.2 l = some (.inr (10, [.int (md + 1), .ref e, .int (nI 0)])) → m.2.2 e = some (aE cap F) →
      ∃ mem', j_ev (d + 1) (j_ex tb (d + 0)) (j_tab q_AL_clear) [] (.inl none) (mem') 27 [some (.ref l), some (.ref e), some (.int (nI xs.length)), some (.int (nI i))] [] m ∧ Al mem' l e cap [] ∧ mem'.1 = m.1 ∧ mem'.2.1 = m.2.1 ∧ ∀ c, c ≠ l → (c ≠ e ∨ xs.length = 0) → mem'.2.2 c = m.2.2 c := by
    intro k
    induction k with
    | zero =>
      intro i F m hi g1 g2
      refine ⟨m, ?_, ⟨md + 1, F, g1, g2, fun j hj => (by cases hj), Nat.zero_le _⟩, rfl, rfl, fun _ _ _ => rfl⟩
      repeat (first | refine ev_go rfl (by rfl) ?_ | refine ev_gf rfl (by assumption) (by rfl) (by rfl) ?_)
      refine ev_icT rfl (by exact b_le (a := xs.length) (b := i) (by omega) (by omega) (by omega)) ?_
      exact j_ev.ret rfl
    | succ k ih =>
      intro i F m hi g1 g2
      obtain ⟨mem', a1, a2, a3, a4, a5⟩ := ih (i + 1) (va_up F i none) (j_set m e (aE cap (va_up F i none))) (by omega) (by rw [st_ne _ _ hle]; exact g1) (st_same _ _ _)
      refine ⟨mem', ?_, a2, a3, a4, fun c c1 c2 => by rw [a5 c c1 c2, st_ne _ _ (by omega)]⟩
      rw [← nI_1 i] at a1
      repeat (first | refine ev_go rfl (by rfl) ?_ | refine ev_gf rfl (by assumption) (by rfl) (by rfl) ?_)
      refine ev_icF rfl (by exact b_nle (a := xs.length) (b := i) (by omega) (by omega) (by omega)) ?_
      repeat (first | refine ev_go rfl (by rfl) ?_ | refine ev_gf rfl (by assumption) (by rfl) (by rfl) ?_)
      refine ev_aqN (b := e) (len := cap) (f := F) rfl g2 (i_in' (by omega) (by omega)) (Nat.ble_eq.mpr (he (by omega))) ?_
      rw [nI_clamp (by omega)]
      repeat (first | exact a1 | refine ev_go rfl (by rfl) ?_ | refine ev_gf rfl (by assumption) (by rfl) (by rfl) ?_)
  obtain ⟨mem', a1, a2, a3, a4, a5⟩ := loop xs.length 0 E (j_set (j_set mem l (.inr (10, [.int (md + 1), .ref e, .int (nI xs.length)]))) l (.inr (10, [.int (md + 1), .ref e, .int (nI 0)]))) (by omega) (st_same _ _ _) (by rw [st_ne _ _ (Ne.symm hle), st_ne _ _ (Ne.symm hle)]; exact h2)
  refine ⟨mem', ?_, a2, a3, a4, fun c c1 c2 => by rw [a5 c c1 c2, st_ne _ _ c1, st_ne _ _ c1]⟩
  refine ⟨e_AL_clear, rfl, Nat.le_of_ble_eq_true rfl, ?_⟩
  repeat (first | refine ev_go rfl (by rfl) ?_ | refine ev_gf rfl (by assumption) (by rfl) (by rfl) ?_)
  refine ev_pf rfl (by assumption) (by rfl) (by rfl) (by rfl) ?_
  refine ev_m (mem' := j_set mem l (.inr (10, [.int (md + 1), .ref e, .int (nI xs.length)]))) rfl ?_
  repeat (first | refine ev_go rfl (by rfl) ?_ | refine ev_gf rfl (by assumption) (by rfl) (by rfl) ?_)
  refine ev_pf rfl (by assumption) (by rfl) (by rfl) (by rfl) ?_
  repeat (first | exact a1 | refine ev_go rfl (by rfl) ?_ | refine ev_gf rfl (by assumption) (by rfl) (by rfl) ?_)
end ADD1
