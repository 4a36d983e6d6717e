/-! the whole merge; counts; the next moment; what a walk meets (own text) -/
theorem al_cov {K : Nat → Nat} {ms : Nat → List Nat} {ml : List Nat} (ha : age K ms) (hml : ∀ t, t ∈ ml ↔ ∃ r, 1 ≤ r ∧ r < 5 ∧ t ∈ ms r) : Cov K ms 3 ml := by
  refine ⟨fun x hx => ?_, fun x hx r hr t ht hk => ?_⟩
  · obtain ⟨r, h1, h2, h3⟩ := (hml x).mp hx
    exact ⟨r, by omega, h3⟩
  · rcases Nat.eq_zero_or_pos r with c | c
    · subst c
      obtain ⟨r, h1, h2, h3⟩ := (hml x).mp hx
      exact Or.inr (Or.inl ⟨by omega, ha 0 r (by omega) h2 t ht x h3 hk⟩)
    · exact Or.inl ((hml t).mpr ⟨r, c, hr, ht⟩)
theorem al_ms {K : Nat → Nat} {ms ms' : Nat → List Nat} {ml kp : List Nat} (ha : age K ms) (hml : ∀ t, t ∈ ml ↔ ∃ r, 1 ≤ r ∧ r < 5 ∧ t ∈ ms r) (e0 : ms' 0 = ms 0) (e1 : ∀ r, 1 ≤ r → r < 4 → ms' r = []) (e4 : ms' 4 = kp) :
    ∀ r, r < 5 → ∀ t, t ∈ ms' r ↔ (t ∈ ms r ∧ t ∉ ml) ∨ (r = 3 + 1 ∧ t ∈ kp) := by
  intro r hr t
  by_cases c : r = 0
  · subst c
    rw [e0]
    constructor
    · intro h
      refine Or.inl ⟨h, fun q => ?_⟩
      obtain ⟨r, h1, h2, h3⟩ := (hml t).mp q
      have := age_dj ha (by omega) h2 h h3
      omega
    · rintro (q | q)
      · exact q.1
      · omega
  · by_cases c4 : r = 4
    · subst c4
      rw [e4]
      constructor
      · intro h
        exact Or.inr ⟨rfl, h⟩
      · rintro (q | q)
        · exact absurd ((hml t).mpr ⟨4, by omega, by omega, q.1⟩) q.2
        · exact q.2
    · rw [e1 r (by omega) (by omega)]
      constructor
      · intro h
        cases h
      · rintro (q | q)
        · exact absurd ((hml t).mpr ⟨r, by omega, hr, q.1⟩) q.2
        · omega
/-- until when a version of a sorted list is the newest of its key -/
def unt (K : Nat → Nat) (rest : List Nat) (x : Nat) : Nat := match rest with
  | [] => 1023
  | y :: _ => if K y = K x then y else 1023
theorem unt_iff {K th : Nat → Nat} {S : Nat → Prop} {pre rest : List Nat} {x m tg : Nat} (hso : So K (pre ++ x :: rest)) (hlt : ∀ y ∈ pre ++ x :: rest, y < 1023) (hS : ∀ t, t ∈ pre ++ x :: rest ↔ S t ∧ tg ≤ oN K t) (hm : m < 1023) :
    (th x = 1 ∧ x ≤ m ∧ m < unt K rest x) ↔ sst K th S m x := by
  obtain ⟨s1, s2⟩ := So_mid hso hlt
  have hx := (hS x).mp (by simp)
  have hxl := hlt x (by simp)
  constructor
  · rintro ⟨h1, h2, h3⟩
    refine ⟨hx.1, h2, h1, fun t' a1 a2 a3 a4 => ?_⟩
    have hin : t' ∈ pre ++ x :: rest := (hS t').mpr ⟨a1, by have := hx.2; unfold oN at this ⊢; rw [a4]; omega⟩
    rcases List.mem_append.mp hin with q | q
    · have := (s1 t' q).2 a4
      omega
    · rcases List.mem_cons.mp q with q | q
      · omega
      · cases rest with
        | nil => cases q
        | cons y r =>
          have g1 := s2 y List.mem_cons_self
          have s3 := So_mid (pre := pre ++ [x]) (x := y) (rest := r) (by simpa using hso) (by simpa using hlt)
          rcases List.mem_cons.mp q with q | q
          · subst q
            simp only [unt, if_pos a4] at h3
            omega
          · have g2 := s3.2 t' q
            have hk : K y = K x := by omega
            simp only [unt, if_pos hk] at h3
            have := g2.2 (by omega)
            omega
  · rintro ⟨h1, h2, h3, h4⟩
    refine ⟨h3, h2, ?_⟩
    cases rest with
    | nil => exact hm
    | cons y r =>
      show m < (if K y = K x then y else 1023)
      split
      · rename_i hk
        have g1 := (s2 y List.mem_cons_self).2 hk
        have g2 := ((hS y).mp (by simp)).1
        rcases Nat.lt_or_ge m y with c | c
        · exact c
        · exact absurd hk (h4 y g2 g1 c)
      · exact hm
/-- a proposition as a Boolean -/
noncomputable def bd (p : Prop) : Bool := @decide p (Classical.propDecidable p)
theorem bd_t {p : Prop} : bd p = true ↔ p := by
  unfold bd
  exact @decide_eq_true_iff p (Classical.propDecidable p)
theorem bd_e {p q : Prop} (h : p ↔ q) : bd p = bd q := by rw [propext h]
/-- how many stand -/
noncomputable def hcn (K th : Nat → Nat) (m : Nat) : Nat := ((List.range (m + 1)).filter (fun t => bd (hst K th m t))).length
theorem len_eq {l l' : List Nat} (h : l.Nodup) (h' : l'.Nodup) (hm : ∀ t, t ∈ l ↔ t ∈ l') : l.length = l'.length :=
  Nat.le_antisymm (pg l l' h (fun t ht => (hm t).mp ht)) (pg l' l h' (fun t ht => (hm t).mpr ht))
theorem hcn_of {K th : Nat → Nat} {m : Nat} {l : List Nat} {p : Nat → Bool} (hn : l.Nodup) (h : ∀ t, (t ∈ l ∧ p t = true) ↔ hst K th m t) : (l.filter p).length = hcn K th m := by
  refine len_eq (hn.filter _) (List.nodup_range.filter _) (fun t => ?_)
  rw [List.mem_filter, h, List.mem_filter, List.mem_range]
  constructor
  · intro q
    exact ⟨by have := q.2.1; omega, bd_t.mpr q⟩
  · intro q
    exact bd_t.mp q.2
theorem hst_uq {K th : Nat → Nat} {m t t' : Nat} (h : hst K th m t) (h' : hst K th m t') (hk : K t = K t') : t = t' := by
  rcases Nat.lt_trichotomy t t' with c | c | c
  · exact absurd hk.symm (h.2.2.2 t' c h'.2.1)
  · exact c
  · exact absurd hk (h'.2.2.2 t c h.2.1)
theorem hst_cg {K th K' th' : Nat → Nat} {m t : Nat} (hK : ∀ i, 1 ≤ i → i ≤ m → K' i = K i ∧ th' i = th i) : hst K' th' m t ↔ hst K th m t := by
  constructor
  · rintro ⟨h1, h2, h3, h4⟩
    refine ⟨h1, h2, by rw [← (hK t h1 h2).2]; exact h3, fun t' a b => ?_⟩
    rw [← (hK t h1 h2).1, ← (hK t' (by omega) b).1]
    exact h4 t' a b
  · rintro ⟨h1, h2, h3, h4⟩
    refine ⟨h1, h2, by rw [(hK t h1 h2).2]; exact h3, fun t' a b => ?_⟩
    rw [(hK t h1 h2).1, (hK t' (by omega) b).1]
    exact h4 t' a b
theorem sst_cg {K th K' th' : Nat → Nat} {S : Nat → Prop} {P m t : Nat} (hS : ∀ t, S t → 1 ≤ t ∧ t ≤ P) (hK : ∀ i, 1 ≤ i → i ≤ P → K' i = K i ∧ th' i = th i) : sst K' th' S m t ↔ sst K th S m t := by
  constructor
  · rintro ⟨h1, h2, h3, h4⟩
    have e := hK t (hS t h1).1 (hS t h1).2
    refine ⟨h1, h2, by rw [← e.2]; exact h3, fun t' q a b => ?_⟩
    rw [← e.1, ← (hK t' (hS t' q).1 (hS t' q).2).1]
    exact h4 t' q a b
  · rintro ⟨h1, h2, h3, h4⟩
    have e := hK t (hS t h1).1 (hS t h1).2
    refine ⟨h1, h2, by rw [e.2]; exact h3, fun t' q a b => ?_⟩
    rw [e.1, (hK t' (hS t' q).1 (hS t' q).2).1]
    exact h4 t' q a b
theorem hst_s {K th : Nat → Nat} {P t : Nat} : hst K th (P + 1) t ↔ (t = P + 1 ∧ th t = 1) ∨ (hst K th P t ∧ K t ≠ K (P + 1)) := by
  constructor
  · rintro ⟨h1, h2, h3, h4⟩
    by_cases c : t = P + 1
    · exact Or.inl ⟨c, h3⟩
    · exact Or.inr ⟨⟨h1, by omega, h3, fun t' a b => h4 t' a (by omega)⟩, fun e => h4 (P + 1) (by omega) (Nat.le_refl _) e.symm⟩
  · rintro (⟨h1, h2⟩ | ⟨⟨h1, h2, h3, h4⟩, h5⟩)
    · exact ⟨by omega, by omega, h2, fun t' a b => by omega⟩
    · refine ⟨h1, by omega, h3, fun t' a b => ?_⟩
      by_cases c : t' = P + 1
      · rw [c]
        exact fun e => h5 e.symm
      · exact h4 t' a (by omega)
/-- one more version: what stands at the moments that are seen -/
theorem put_val {K th : Nat → Nat} {S S' : Nat → Prop} {P : Nat} (hS' : ∀ t, S' t ↔ S t ∨ t = P + 1) {m : Nat} (hm : m ≤ P) (t : Nat) : sst K th S' m t ↔ sst K th S m t := by
  constructor
  · rintro ⟨h1, h2, h3, h4⟩
    refine ⟨?_, h2, h3, fun t' q => h4 t' ((hS' t').mpr (Or.inl q))⟩
    rcases (hS' t).mp h1 with q | q
    · exact q
    · omega
  · rintro ⟨h1, h2, h3, h4⟩
    refine ⟨(hS' t).mpr (Or.inl h1), h2, h3, fun t' q a b => ?_⟩
    rcases (hS' t').mp q with q | q
    · exact h4 t' q a b
    · omega
theorem put_now {K th : Nat → Nat} {S S' : Nat → Prop} {P : Nat} (hS : ∀ t, S t → 1 ≤ t ∧ t ≤ P) (hS' : ∀ t, S' t ↔ S t ∨ t = P + 1) (hv : ∀ t, sst K th S P t ↔ hst K th P t) (t : Nat) : sst K th S' (P + 1) t ↔ hst K th (P + 1) t := by
  rw [hst_s]
  constructor
  · rintro ⟨h1, h2, h3, h4⟩
    by_cases c : t = P + 1
    · exact Or.inl ⟨c, h3⟩
    · have hSt : S t := ((hS' t).mp h1).resolve_right c
      refine Or.inr ⟨(hv t).mp ⟨hSt, (hS t hSt).2, h3, fun t' q a b => h4 t' ((hS' t').mpr (Or.inl q)) a (by omega)⟩, fun e => h4 (P + 1) ((hS' _).mpr (Or.inr rfl)) (by omega) (Nat.le_refl _) e.symm⟩
  · rintro (⟨h1, h2⟩ | ⟨h1, h2⟩)
    · exact ⟨(hS' t).mpr (Or.inr h1), by omega, h2, fun t' q a b => by
        rcases (hS' t').mp q with q | q
        · have := (hS t' q).2
          omega
        · omega⟩
    · obtain ⟨g1, g2, g3, g4⟩ := (hv t).mpr h1
      refine ⟨(hS' t).mpr (Or.inl g1), by omega, g3, fun t' q a b => ?_⟩
      rcases (hS' t').mp q with q | q
      · exact g4 t' q a (hS t' q).2
      · rw [q]
        exact fun e => h2 e.symm
theorem hcn_s {K th : Nat → Nat} {P b : Nat} (hth : th (P + 1) = 0 ∨ th (P + 1) = 1) (hb : (b = 1 ∧ ∃ t, hst K th P t ∧ K t = K (P + 1)) ∨ (b = 0 ∧ ¬ ∃ t, hst K th P t ∧ K t = K (P + 1))) : hcn K th (P + 1) + b = hcn K th P + th (P + 1) := by
  have e1 : hcn K th (P + 1) = ((List.range (P + 1)).filter (fun t => bd (hst K th P t ∧ K t ≠ K (P + 1)))).length + th (P + 1) := by
    unfold hcn
    rw [show P + 1 + 1 = (P + 1) + 1 from rfl, List.range_succ, List.filter_append, List.length_append]
    congr 1
    · congr 1
      refine List.filter_congr (fun t ht => ?_)
      have ht := List.mem_range.mp ht
      refine bd_e ?_
      rw [hst_s]
      constructor
      · rintro (q | q)
        · omega
        · exact q
      · exact fun q => Or.inr q
    · rcases hth with h | h
      · have : ¬ hst K th (P + 1) (P + 1) := fun q => by have := q.2.2.1; omega
        have e : bd (hst K th (P + 1) (P + 1)) = false := by
          cases c : bd (hst K th (P + 1) (P + 1)) with
          | true => exact absurd (bd_t.mp c) this
          | false => rfl
        simp [e, h]
      · have : hst K th (P + 1) (P + 1) := hst_s.mpr (Or.inl ⟨rfl, h⟩)
        simp [bd_t.mpr this, h]
  have e2 : hcn K th P = ((List.range (P + 1)).filter (fun t => bd (hst K th P t ∧ K t ≠ K (P + 1)))).length + b := by
    rcases hb with ⟨h1, t, h2, h3⟩ | ⟨h1, h2⟩
    · unfold hcn
      subst h1
      have : ((List.range (P + 1)).filter (fun t => bd (hst K th P t))).length = (t :: ((List.range (P + 1)).filter (fun t => bd (hst K th P t ∧ K t ≠ K (P + 1))))).length := by
        refine len_eq (List.nodup_range.filter _) (List.nodup_cons.mpr ⟨fun q => ?_, List.nodup_range.filter _⟩) (fun x => ?_)
        · have := (List.mem_filter.mp q).2
          exact (bd_t.mp this).2 h3
        · rw [List.mem_cons, List.mem_filter, List.mem_filter]
          simp only [bd_t, List.mem_range]
          constructor
          · rintro ⟨q1, q2⟩
            by_cases c : K x = K (P + 1)
            · exact Or.inl (hst_uq q2 h2 (c.trans h3.symm))
            · exact Or.inr ⟨q1, q2, c⟩
          · rintro (q | ⟨q1, q2, q3⟩)
            · rw [q]
              exact ⟨by have := h2.2.1; omega, h2⟩
            · exact ⟨q1, q2⟩
      rw [this, List.length_cons]
    · unfold hcn
      rw [h1, Nat.add_zero]
      congr 1
      refine List.filter_congr (fun t ht => ?_)
      exact bd_e ⟨fun q => ⟨q, fun e => h2 ⟨t, q, e⟩⟩, fun q => q.1⟩
  omega
theorem hcn_le (K th : Nat → Nat) (m : Nat) : hcn K th m ≤ m := by
  unfold hcn
  refine pgr (a := 1) (List.nodup_range.filter _) (fun x hx => ?_)
  have h := (List.mem_filter.mp hx).2
  have h := bd_t.mp h
  have := h.1
  have := h.2.1
  omega
theorem hcn_0 (K th : Nat → Nat) : hcn K th 0 = 0 := by
  have := hcn_le K th 0
  omega
theorem hcn_cg {K th K' th' : Nat → Nat} {m : Nat} (hK : ∀ i, 1 ≤ i → i ≤ m → K' i = K i ∧ th' i = th i) : hcn K' th' m = hcn K th m := by
  unfold hcn
  congr 1
  refine List.filter_congr (fun t _ => ?_)
  exact bd_e (hst_cg hK)
/-- a stretch of whole tables, by places -/
theorem mem_pre {l r : List Nat} (t : Nat) : t ∈ l ↔ ∃ i, 0 ≤ i ∧ i < l.length ∧ t = (l ++ r).getD i 0 := by
  constructor
  · intro h
    obtain ⟨i, hi, rfl⟩ := List.mem_iff_getElem.mp h
    refine ⟨i, Nat.zero_le _, hi, ?_⟩
    rw [List.getD_eq_getElem?_getD, List.getElem?_append_left hi, List.getElem?_eq_getElem hi]
    rfl
  · rintro ⟨i, -, hi, rfl⟩
    rw [List.getD_eq_getElem?_getD, List.getElem?_append_left hi, List.getElem?_eq_getElem hi]
    exact List.getElem_mem hi
theorem mem_mid {ts : List (List Nat)} {a b : Nat} (hab : a ≤ b) (t : Nat) : t ∈ ((ts.take b).drop a).flatten ↔ ∃ i, stl ts a ≤ i ∧ i < stl ts b ∧ t = ts.flatten.getD i 0 := by
  have e0 : ts.flatten = (ts.take a).flatten ++ (((ts.take b).drop a).flatten ++ (ts.drop b).flatten) := by
    conv => lhs; rw [cut_eq (ts := ts) hab]
    rw [List.flatten_append, List.flatten_append]
  have e1 : stl ts b = stl ts a + ((ts.take b).drop a).flatten.length := by
    unfold stl
    have h1 : (ts.take b) = (ts.take b).take a ++ (ts.take b).drop a := (List.take_append_drop a _).symm
    rw [List.take_take, Nat.min_eq_left hab] at h1
    conv => lhs; rw [h1]
    rw [List.flatten_append, List.length_append]
  constructor
  · intro h
    obtain ⟨i, hi, rfl⟩ := List.mem_iff_getElem.mp h
    refine ⟨stl ts a + i, by omega, by omega, ?_⟩
    rw [e0, List.getD_eq_getElem?_getD, List.getElem?_append_right (show (ts.take a).flatten.length ≤ stl ts a + i from Nat.le_add_right _ _), show stl ts a + i - (ts.take a).flatten.length = i by unfold stl; omega, List.getElem?_append_left hi, List.getElem?_eq_getElem hi]
    rfl
  · rintro ⟨i, h1, h2, rfl⟩
    have hi : i - stl ts a < ((ts.take b).drop a).flatten.length := by omega
    rw [e0, List.getD_eq_getElem?_getD, List.getElem?_append_right (show (ts.take a).flatten.length ≤ i from h1), show i - (ts.take a).flatten.length = i - stl ts a from rfl, List.getElem?_append_left hi, List.getElem?_eq_getElem hi]
    exact List.getElem_mem hi
theorem mem_all {l : List Nat} (t : Nat) : t ∈ l ↔ ∃ i, 0 ≤ i ∧ i < l.length ∧ t = l.getD i 0 := by
  have := mem_pre (l := l) (r := []) t
  rw [List.append_nil] at this
  exact this
/-- all versions together are no more than the moments -/
theorem tot_le {K : Nat → Nat} {ms : Nat → List Nat} {P : Nat} (ha : age K ms) (hs : ∀ r, r < 5 → So K (ms r)) (hb : ∀ r, r < 5 → ∀ t ∈ ms r, 1 ≤ t ∧ t ≤ P) : (ms 0).length + (ms 1).length + (ms 2).length + (ms 3).length + (ms 4).length ≤ P := by
  have dj : ∀ r r', r < 5 → r' < 5 → r ≠ r' → ∀ x ∈ ms r, ∀ y ∈ ms r', x ≠ y := fun r r' h1 h2 hne x hx y hy e => hne (age_dj ha h1 h2 hx (by rw [e]; exact hy))
  have h : (ms 0 ++ (ms 1 ++ (ms 2 ++ (ms 3 ++ ms 4)))).Nodup := by
    refine List.nodup_append.mpr ⟨So_nd (hs 0 (by omega)), List.nodup_append.mpr ⟨So_nd (hs 1 (by omega)), List.nodup_append.mpr ⟨So_nd (hs 2 (by omega)), List.nodup_append.mpr ⟨So_nd (hs 3 (by omega)), So_nd (hs 4 (by omega)), dj 3 4 (by omega) (by omega) (by omega)⟩, ?_⟩, ?_⟩, ?_⟩
    · intro x hx y hy
      rcases List.mem_append.mp hy with q | q
      · exact dj 2 3 (by omega) (by omega) (by omega) x hx y q
      · exact dj 2 4 (by omega) (by omega) (by omega) x hx y q
    · intro x hx y hy
      rcases List.mem_append.mp hy with q | q
      · exact dj 1 2 (by omega) (by omega) (by omega) x hx y q
      · rcases List.mem_append.mp q with q | q
        · exact dj 1 3 (by omega) (by omega) (by omega) x hx y q
        · exact dj 1 4 (by omega) (by omega) (by omega) x hx y q
    · intro x hx y hy
      rcases List.mem_append.mp hy with q | q
      · exact dj 0 1 (by omega) (by omega) (by omega) x hx y q
      · rcases List.mem_append.mp q with q | q
        · exact dj 0 2 (by omega) (by omega) (by omega) x hx y q
        · rcases List.mem_append.mp q with q | q
          · exact dj 0 3 (by omega) (by omega) (by omega) x hx y q
          · exact dj 0 4 (by omega) (by omega) (by omega) x hx y q
  have := pgr (a := 1) (n := P) h (fun x hx => by
    have h5 : ∃ r, r < 5 ∧ x ∈ ms r := by
      rcases List.mem_append.mp hx with q | q
      · exact ⟨0, by omega, q⟩
      · rcases List.mem_append.mp q with q | q
        · exact ⟨1, by omega, q⟩
        · rcases List.mem_append.mp q with q | q
          · exact ⟨2, by omega, q⟩
          · rcases List.mem_append.mp q with q | q
            · exact ⟨3, by omega, q⟩
            · exact ⟨4, by omega, q⟩
    obtain ⟨r, h1, h2⟩ := h5
    have := hb r h1 x h2
    omega)
  simp only [List.length_append] at this
  omega
