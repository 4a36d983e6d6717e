/-! ARRAYLIST: add, add at, remove, clear (own text) -/
/-- what a list holds may stand there -/
def Tbs (mem : j_M) (xs : List Nat) : Prop := ∀ y ∈ xs, 4 ≤ y ∧ y < mem.1 ∧ ∃ fs, mem.2.2 y = some (.inr (9, fs))
/-- where the array of a list may lie -/
def Ale (mem : j_M) (e cap : Nat) : Prop := (cap = 0 → e = 2) ∧ (cap ≠ 0 → 78 ≤ e ∧ e < mem.1)
/-- what an addition leaves of memory: list l, its array now at e', cap' long -/
def Alr (mem mem' : j_M) (l e cap n e' cap' : Nat) : Prop :=
  (∀ c, c ≠ l → c ≠ e' → mem'.2.2 c = mem.2.2 c) ∧ ((e' = e ∧ cap' = cap ∧ n < cap ∧ mem'.1 = mem.1 ∧ mem'.2.1 = mem.2.1) ∨ (n = cap ∧ e' = mem.1 ∧ cap < cap' ∧ cap' ≤ 2 * cap + 10 ∧ mem'.1 = mem.1 + 1 ∧ mem'.2.1 = mem.2.1 + cap'))
theorem getD_lt {xs : List Nat} {i : Nat} (h : i < xs.length) : xs.getD i 0 = xs[i] := by
  rw [List.getD_eq_getElem?_getD, List.getElem?_eq_getElem h]; rfl
theorem getD_mem {xs : List Nat} {i : Nat} (h : i < xs.length) : xs.getD i 0 ∈ xs := by
  rw [getD_lt h]; exact List.getElem_mem _
section ADD
variable {mem : j_M} {l e cap : Nat} {xs : List Nat}
/-- the array behind 'grow if full', for a list whose count of changes has been written -/
theorem x_room (d : Nat) {md : Int32} {E : Nat → Option Nat} (h1 : mem.2.2 l = some (.inr (10, [.int md, .ref e, .int (nI xs.length)]))) (he : mem.2.2 e = some (aE cap E)) (hE : ∀ i, i < xs.length → E i = some (xs.getD i 0)) (hn : xs.length = cap) (hA : Ale mem e cap) (hT : Tbs mem xs) (hl : l < mem.1) (h78 : 78 ≤ mem.1) (hc : cap < 2 ^ 20) :
    ∃ cap' E', cap < cap' ∧ cap' ≤ 2 * cap + 10 ∧ (∀ i, i < xs.length → E' i = some (xs.getD i 0)) ∧ j_ex tb (d + 4) m_AL_grow_0 [.ref l] mem (.inl (some (.ref mem.1))) (j_set (j_new mem cap' (some (aE cap' E'))) l (.inr (10, [.int md, .ref mem.1, .int (nI xs.length)]))) := by
  obtain ⟨cap', E', a1, a2, a3, a4⟩ := x_AL_grow d (by rw [hn] at h1; exact h1) he hA.1 hA.2 hl h78 hc (fun i hi => by
    obtain ⟨q1, q2, fs, q3⟩ := hT _ (getD_mem (i := i) (by omega))
    exact ⟨_, fs, hE i (by omega), q1, q2, q3⟩)
  rw [← hn] at a4
  exact ⟨cap', E', a1, a2, fun i hi => (a3 i (by omega)).trans (hE i hi), a4⟩
theorem getD_ins {xs : List Nat} {t i j : Nat} (hi : i ≤ xs.length) : (xs.take i ++ t :: xs.drop i).getD j 0 = if j < i then xs.getD j 0 else if j = i then t else xs.getD (j - 1) 0 := by
  simp only [List.getD_eq_getElem?_getD]
  by_cases h1 : j < i
  · rw [if_pos h1, List.getElem?_append_left (by rw [List.length_take]; omega), List.getElem?_take_of_lt h1]
  · rw [if_neg h1, List.getElem?_append_right (by rw [List.length_take]; omega), List.length_take, Nat.min_eq_left hi]
    by_cases h2 : j = i
    · rw [if_pos h2, h2, Nat.sub_self]; rfl
    · rw [if_neg h2, show j - i = (j - i - 1) + 1 by omega, List.getElem?_cons_succ, List.getElem?_drop]
      congr 2
      omega
/-- add at a place -/
theorem x_AL_add2 (d : Nat) {i t : Nat} (h : Al mem l e cap xs) (hi : i ≤ xs.length) (hA : Ale mem e cap) (hT : Tbs mem xs) (hl : l < mem.1) (h78 : 78 ≤ mem.1) (hc : cap < 2 ^ 20) (ht : Tbs mem [t]) (hle : l ≠ e) (htl : t ≠ l) (hl4 : 4 ≤ l) :
    ∃ e' cap' mem', j_ex tb (d + 5) m_AL_add_2 [.ref l, .int (nI i), .ref t] mem (.inl none) mem' ∧ Al mem' l e' cap' (xs.take i ++ t :: xs.drop i) ∧ Ale mem' e' cap' ∧ Alr mem mem' l e cap xs.length e' cap' := by
  obtain ⟨md, E, h1, h2, h3, h4⟩ := h
  obtain ⟨t4, tm, tf, tfs⟩ := ht t List.mem_cons_self
  have hTl : ∀ y ∈ xs, y ≠ l := fun y hy q => by
    obtain ⟨_, _, fs, q3⟩ := hT y hy
    rw [q, h1] at q3
    cases q3
  have klen : (xs.take i ++ t :: xs.drop i).length = xs.length + 1 := by
    rw [List.length_append, List.length_cons, List.length_take, List.length_drop]; omega
  have kr : j_ex tb (d + 4) m_AL_rangeCheckForAdd [.ref l, .int (nI i)] mem (.inl none) mem := by
    refine ⟨e_AL_rangeCheckForAdd, rfl, Nat.le_of_ble_eq_true rfl, ?_⟩
    repeat (first | refine ev_go rfl (by rfl) ?_ | refine ev_gf rfl (by assumption) (by rfl) (by rfl) ?_)
    refine ev_icF rfl (by exact b_nlt (a := xs.length) (b := i) (by omega) (by omega) (by omega)) ?_
    repeat (first | refine ev_go rfl (by rfl) ?_ | refine ev_gf rfl (by assumption) (by rfl) (by rfl) ?_)
    refine ev_ifT rfl (by exact b_le (a := 0) (b := i) (by omega) (by omega) (by omega)) ?_
    exact j_ev.ret rfl
  -- the end, once the array at a (n' long, contents F) has room
  have fin : ∀ (m : j_M) (a n' : Nat) (F : Nat → Option Nat) (md' : Int32) (mo : j_M), m.2.2 l = some (.inr (10, [.int md', .ref a, .int (nI xs.length)])) → m.2.2 a = some (aE n' F) → xs.length < n' → n' < 2 ^ 30 → (∀ i, i < xs.length → F i = some (xs.getD i 0)) → 4 ≤ a → a ≠ l → (∀ y, y ∈ t :: xs → m.2.2 y = mem.2.2 y) → t ≠ a → (∀ y ∈ xs, y ≠ a) →
      mo = j_set (j_set m a (aE n' (va_up (va_cpy F F i (i + 1) (xs.length - i)) i (some t)))) l (.inr (10, [.int md', .ref a, .int (nI (xs.length + 1))])) →
      j_ev (d + 5) (j_ex tb (d + 4)) (j_tab q_AL_add_2) [] (.inl none) (mo) 38 [some (.ref l), some (.int (nI i)), some (.ref t), some (.int (nI xs.length)), some (.ref a)] [] m := by
    intro m a n' F md' mo g1 g2 g3 g4 g5 g6 g7 g8 g9 g10 hmo
    subst hmo
    rw [← nI_1 xs.length]
    have hall : j_allq m F i (xs.length - i) = true := by
      unfold j_allq
      refine List.all_eq_true.mpr fun j hj => ?_
      have hj := List.mem_range.mp hj
      rw [g5 (i + j) (by omega)]
      have hm := getD_mem (xs := xs) (i := i + j) (by omega)
      obtain ⟨q1, q2, fs, q3⟩ := hT _ hm
      show (j_fit 6 (m.2.2 (xs.getD (i + j) 0)) && Nat.ble 4 (xs.getD (i + j) 0)) = true
      rw [g8 _ (List.mem_cons_of_mem _ hm), q3, Nat.ble_eq.mpr q1]
      rfl
    have i1 : ∀ x, (j_set m a x).2.2 l = some (.inr (10, [.int md', .ref a, .int (nI xs.length)])) := fun x => by rw [st_ne _ _ (Ne.symm g7)]; exact g1
    have i2 := i1 (aE n' (va_up (va_cpy F F i (i + 1) (xs.length - i)) i (some t)))
    repeat (first | refine ev_go rfl (by rfl) ?_ | refine ev_gf rfl (by assumption) (by rfl) (by rfl) ?_)
    refine ev_s (st' := [.int (nI (xs.length - i)), .int (nI (i + 1)), .ref a, .int (nI i), .ref a]) (by rw [← pk_sub hi, ← nI_1 i]) ?_
    refine ev_cpqN rfl g2 g2 (by omega) (by omega) (by omega) (by omega) (by omega) g6 g6 (by decide) hall ?_
    repeat (first | refine ev_go rfl (by rfl) ?_ | refine ev_gf rfl (by assumption) (by rfl) (by rfl) ?_)
    refine ev_aqN' (i := i) rfl (st_same _ _ _) (by rw [st_ne _ _ g9, g8 t List.mem_cons_self, tfs]; rfl) (by omega) (by omega) g6 t4 ?_
    rw [st_st]
    repeat (first | refine ev_go rfl (by rfl) ?_ | refine ev_gf rfl (by assumption) (by rfl) (by rfl) ?_)
    refine ev_pf rfl i2 (by rfl) (by rfl) (by rfl) ?_
    exact j_ev.ret rfl
  have cont : ∀ (n' : Nat) (F : Nat → Option Nat), (∀ i, i < xs.length → F i = some (xs.getD i 0)) → ∀ j, j < (xs.take i ++ t :: xs.drop i).length → va_up (va_cpy F F i (i + 1) (xs.length - i)) i (some t) j = some ((xs.take i ++ t :: xs.drop i).getD j 0) := by
    intro n' F hF j hj
    rw [klen] at hj
    rw [getD_ins hi]
    by_cases c1 : j < i
    · rw [if_pos c1, va_up_ne _ _ (by omega), pk_cpy_out (Or.inl (by omega)), hF j (by omega)]
    · rw [if_neg c1]
      by_cases c2 : j = i
      · rw [if_pos c2, c2, va_up_self]
      · rw [if_neg c2, va_up_ne _ _ c2, pk_cpy_in (by omega) (by omega), show i + (j - (i + 1)) = j - 1 by omega, hF (j - 1) (by omega)]
  have m1 : (j_set mem l (.inr (10, [.int (md + 1), .ref e, .int (nI xs.length)]))).2.2 l = some (.inr (10, [.int (md + 1), .ref e, .int (nI xs.length)])) := st_same _ _ _
  have m2 : (j_set mem l (.inr (10, [.int (md + 1), .ref e, .int (nI xs.length)]))).2.2 e = some (aE cap E) := by rw [st_ne _ _ (Ne.symm hle)]; exact h2
  have pre : ∀ (mo : j_M) (hk : j_ev (d + 5) (j_ex tb (d + 4)) (j_tab q_AL_add_2) [] (.inl none) (mo) 29 [some (.ref l), some (.int (nI i)), some (.ref t), some (.int (nI xs.length)), some (.ref e)] [.int (nI cap), .int (nI xs.length)] (j_set mem l (.inr (10, [.int (md + 1), .ref e, .int (nI xs.length)])))), j_ex tb (d + 5) m_AL_add_2 [.ref l, .int (nI i), .ref t] mem (.inl none) mo := by
    intro mo hk
    refine ⟨e_AL_add_2, rfl, Nat.le_of_ble_eq_true rfl, ?_⟩
    repeat (first | refine ev_go rfl (by rfl) ?_ | refine ev_gf rfl (by assumption) (by rfl) (by rfl) ?_)
    refine ev_cv (as := [.int (nI i)]) rfl rfl rfl (by assumption) (by rfl) (by rfl) (kr) ?_
    repeat (first | refine ev_go rfl (by rfl) ?_ | refine ev_gf rfl (by assumption) (by rfl) (by rfl) ?_)
    refine ev_pf rfl (by assumption) (by rfl) (by rfl) (by rfl) ?_
    refine ev_m (mem' := j_set mem l (.inr (10, [.int (md + 1), .ref e, .int (nI xs.length)]))) rfl ?_
    repeat (first | refine ev_go rfl (by rfl) ?_ | refine ev_gf rfl (by assumption) (by rfl) (by rfl) ?_)
    refine ev_an rfl (by assumption) (by rfl) ?_
    exact hk
  by_cases cf : xs.length < cap
  · have e78 := hA.2 (by omega)
    refine ⟨e, cap, j_set (j_set (j_set mem l (.inr (10, [.int (md + 1), .ref e, .int (nI xs.length)]))) e (aE cap (va_up (va_cpy E E i (i + 1) (xs.length - i)) i (some t)))) l (.inr (10, [.int (md + 1), .ref e, .int (nI (xs.length + 1))])), pre _ ?_, ?_, ?_, ?_⟩
    rotate_left
    · exact ⟨md + 1, _, by rw [klen]; exact st_same _ _ _, by rw [st_ne _ _ (Ne.symm hle)]; exact st_same _ _ _, cont cap E h3, by rw [klen]; omega⟩
    · exact hA
    · refine ⟨fun c c1 c2 => ?_, Or.inl ⟨rfl, rfl, cf, rfl, rfl⟩⟩
      rw [st_ne _ _ c1, st_ne _ _ c2, st_ne _ _ c1]
    · refine ev_icT rfl (by exact b_ne (a := xs.length) (b := cap) (by omega) (by omega) (by omega)) ?_
      refine fin _ e cap E (md + 1) _ m1 m2 cf (by omega) h3 (by omega) (Ne.symm hle) (fun y hy => ?_) (fun q => ?_) (fun y hy q => ?_) rfl
      · refine st_ne _ _ ?_
        rcases List.mem_cons.mp hy with rfl | hy
        · exact htl
        · exact hTl y hy
      · rw [q, h2] at tfs; cases tfs
      · obtain ⟨_, _, fs, q3⟩ := hT y hy
        rw [q, h2] at q3; cases q3
  · have hfull : xs.length = cap := by omega
    have hT1 : Tbs (j_set mem l (.inr (10, [.int (md + 1), .ref e, .int (nI xs.length)]))) xs := fun y hy => by
      obtain ⟨q1, q2, fs, q3⟩ := hT y hy
      exact ⟨q1, q2, fs, by rw [st_ne _ _ (hTl y hy)]; exact q3⟩
    obtain ⟨cap', E', a1, a2, a3, a4⟩ := x_room d m1 m2 h3 hfull hA hT1 hl h78 hc
    have hlm : l ≠ mem.1 := by omega
    have r1 : ∀ c x y, c ≠ l → c ≠ mem.1 → (j_set (j_new (j_set mem l x) cap' (some (aE cap' E'))) l y).2.2 c = mem.2.2 c := fun c x y c1 c2 => by
      rw [st_ne _ _ c1, nw_ne _ _ _ (show c ≠ (j_set mem l x).1 from c2), st_ne _ _ c1]
    have r2 : ∀ x y, (j_set (j_new (j_set mem l x) cap' (some (aE cap' E'))) l y).2.2 mem.1 = some (aE cap' E') := fun x y => by
      rw [st_ne _ _ (Ne.symm hlm)]; exact nw_same _ _ _
    refine ⟨mem.1, cap', j_set (j_set (j_set (j_new (j_set mem l (.inr (10, [.int (md + 1), .ref e, .int (nI xs.length)]))) cap' (some (aE cap' E'))) l (.inr (10, [.int (md + 1), .ref mem.1, .int (nI xs.length)]))) mem.1 (aE cap' (va_up (va_cpy E' E' i (i + 1) (xs.length - i)) i (some t)))) l (.inr (10, [.int (md + 1), .ref mem.1, .int (nI (xs.length + 1))])), pre _ ?_, ?_, ?_, ?_⟩
    rotate_left
    · exact ⟨md + 1, _, by rw [klen]; exact st_same _ _ _, by rw [st_ne _ _ (Ne.symm hlm)]; exact st_same _ _ _, cont cap' E' a3, by rw [klen]; omega⟩
    · exact ⟨fun q => by omega, fun _ => ⟨h78, Nat.lt_succ_self _⟩⟩
    · refine ⟨fun c c1 c3 => ?_, Or.inr ⟨hfull, rfl, a1, a2, rfl, rfl⟩⟩
      rw [st_ne _ _ c1, st_ne _ _ c3, r1 c _ _ c1 c3]
    · refine ev_icF rfl (by exact b_nne (a := xs.length) (b := cap) (by omega) (by omega) (by omega)) ?_
      repeat (first | refine ev_go rfl (by rfl) ?_ | refine ev_gf rfl (by assumption) (by rfl) (by rfl) ?_)
      refine ev_cv (as := []) rfl rfl rfl (by assumption) (by rfl) (by rfl) (a4) ?_
      refine j_ev.go rfl ?_
      refine fin _ mem.1 cap' E' (md + 1) _ (st_same _ _ _) (r2 _ _) (by omega) (by omega) a3 (by omega) (Ne.symm hlm) (fun y hy => ?_) (by omega) (fun y hy => ?_) rfl
      · rcases List.mem_cons.mp hy with rfl | hy
        · exact r1 _ _ _ htl (by omega)
        · exact r1 _ _ _ (hTl y hy) (by have := (hT y hy).2.1; omega)
      · have := (hT y hy).2.1; omega
end ADD
