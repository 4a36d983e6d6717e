/-! PURE PICTURES: sorted lists of moments, what stands at a moment, what a merge may leave out (own text) -/
def oN (K : Nat → Nat) (m : Nat) : Nat := K m * 1024 + m
def So (K : Nat → Nat) (l : List Nat) : Prop := l.Pairwise (fun x y => oN K x < oN K y)
theorem oN_inj {K : Nat → Nat} {x y : Nat} (hx : x < 1024) (hy : y < 1024) (h : oN K x = oN K y) : x = y := by
  unfold oN at h
  omega
theorem oN_lt {K : Nat → Nat} {x y : Nat} (hx : x < 1024) (hy : y < 1024) : oN K x < oN K y ↔ K x < K y ∨ (K x = K y ∧ x < y) := by
  unfold oN
  constructor
  · intro h
    omega
  · intro h
    omega
theorem oins (K : Nat → Nat) {x : Nat} (hx : x < 1024) : ∀ (l : List Nat), (∀ y ∈ l, y < 1024) → So K l → ∃ l', So K l' ∧ ∀ t, t ∈ l' ↔ t = x ∨ t ∈ l
  | [], _, _ => ⟨[x], List.pairwise_singleton _ _, fun t => by simp⟩
  | y :: l, h, hs => by
    have hs' := List.pairwise_cons.mp hs
    by_cases c : oN K x < oN K y
    · refine ⟨x :: y :: l, List.pairwise_cons.mpr ⟨fun z hz => ?_, hs⟩, fun t => by simp⟩
      rcases List.mem_cons.mp hz with rfl | hz
      · exact c
      · exact Nat.lt_trans c (hs'.1 z hz)
    · by_cases c2 : oN K x = oN K y
      · have : x = y := oN_inj hx (h y (List.mem_cons_self)) c2
        subst this
        exact ⟨x :: l, hs, fun t => by simp⟩
      · obtain ⟨l', q1, q2⟩ := oins K hx l (fun z hz => h z (List.mem_cons_of_mem _ hz)) hs'.2
        refine ⟨y :: l', List.pairwise_cons.mpr ⟨fun z hz => ?_, q1⟩, fun t => ?_⟩
        · rcases (q2 z).mp hz with rfl | hz
          · omega
          · exact hs'.1 z hz
        · rw [List.mem_cons, List.mem_cons, q2]
          constructor
          · rintro (a | a | a)
            · exact Or.inr (Or.inl a)
            · exact Or.inl a
            · exact Or.inr (Or.inr a)
          · rintro (a | a | a)
            · exact Or.inr (Or.inl a)
            · exact Or.inl a
            · exact Or.inr (Or.inr a)
/-- every finite set of moments stands in order in a list -/
theorem srt (K : Nat → Nat) : ∀ (xs : List Nat), (∀ x ∈ xs, x < 1024) → ∃ l, So K l ∧ ∀ t, t ∈ l ↔ t ∈ xs
  | [], _ => ⟨[], List.Pairwise.nil, fun _ => Iff.rfl⟩
  | x :: xs, h => by
    obtain ⟨l, h1, h2⟩ := srt K xs (fun y hy => h y (List.mem_cons_of_mem _ hy))
    obtain ⟨l', h3, h4⟩ := oins K (h x List.mem_cons_self) l (fun y hy => h y (List.mem_cons_of_mem _ ((h2 y).mp hy))) h1
    exact ⟨l', h3, fun t => by rw [h4, h2, List.mem_cons]⟩
theorem So_nd {K : Nat → Nat} {l : List Nat} (h : So K l) : l.Nodup := List.Pairwise.imp (fun {a b} q e => by subst e; omega) h
/-- a list of different things, all in another: it is no longer -/
theorem pg {α : Type} : ∀ (l l' : List α), l.Nodup → (∀ x ∈ l, x ∈ l') → l.length ≤ l'.length
  | [], _, _, _ => Nat.zero_le _
  | x :: l, l', h, hs => by
    have h' := List.nodup_cons.mp h
    obtain ⟨a, b, e⟩ := List.append_of_mem (hs x List.mem_cons_self)
    have := pg l (a ++ b) h'.2 (fun y hy => by
      have q := hs y (List.mem_cons_of_mem _ hy)
      rw [e] at q
      have hne : y ≠ x := fun e => h'.1 (e ▸ hy)
      rcases List.mem_append.mp q with q | q
      · exact List.mem_append_left _ q
      · rcases List.mem_cons.mp q with q | q
        · exact absurd q hne
        · exact List.mem_append_right _ q)
    rw [e]
    simp only [List.length_append, List.length_cons] at this ⊢
    omega
theorem pgr {l : List Nat} {a n : Nat} (h : l.Nodup) (hl : ∀ x ∈ l, a ≤ x ∧ x < a + n) : l.length ≤ n := by
  have := pg l ((List.range n).map (fun i => a + i)) h (fun x hx => by
    have := hl x hx
    exact List.mem_map.mpr ⟨x - a, List.mem_range.mpr (by omega), by omega⟩)
  simpa using this
/-- what stands at a moment, by the history; by a set of versions -/
def hst (K th : Nat → Nat) (m t : Nat) : Prop := 1 ≤ t ∧ t ≤ m ∧ th t = 1 ∧ ∀ t', t < t' → t' ≤ m → K t' ≠ K t
def sst (K th : Nat → Nat) (S : Nat → Prop) (m t : Nat) : Prop := S t ∧ t ≤ m ∧ th t = 1 ∧ ∀ t', S t' → t < t' → t' ≤ m → K t' ≠ K t
/-- the next version of the same key, 1023 if there is none -/
def nxS (K : Nat → Nat) (S : Nat → Prop) (x u : Nat) : Prop := (u = 1023 ∧ ∀ t, S t → K t = K x → t ≤ x) ∨ (S u ∧ K u = K x ∧ x < u ∧ ∀ t, S t → K t = K x → x < t → u ≤ t)
/-- the newest up to a moment -/
theorem nwst (K : Nat → Nat) (S : Nat → Prop) {k m : Nat} : ∀ (n t : Nat), m ≤ t + n → S t → K t = k → t ≤ m → ∃ y, S y ∧ K y = k ∧ t ≤ y ∧ y ≤ m ∧ ∀ t', S t' → K t' = k → t' ≤ m → t' ≤ y
  | 0, t, h, h1, h2, h3 => ⟨t, h1, h2, Nat.le_refl _, h3, fun t' _ _ q => by omega⟩
  | n + 1, t, h, h1, h2, h3 => by
    by_cases c : ∃ t', S t' ∧ K t' = k ∧ t' ≤ m ∧ t < t'
    · obtain ⟨t', a1, a2, a3, a4⟩ := c
      obtain ⟨y, b1, b2, b3, b4, b5⟩ := nwst K S n t' (by omega) a1 a2 a3
      exact ⟨y, b1, b2, by omega, b4, b5⟩
    · refine ⟨t, h1, h2, Nat.le_refl _, h3, fun t' a1 a2 a3 => ?_⟩
      by_cases q : t < t'
      · exact absurd ⟨t', a1, a2, a3, q⟩ c
      · omega
/-- why a version of a merged list that is seen may be missing behind it -/
def drp (K th : Nat → Nat) (kp : List Nat) (Dp : Nat → Prop) (x : Nat) : Prop :=
  (∃ y ∈ kp, K y = K x ∧ y < x ∧ th y = 0 ∧ ∀ z ∈ kp, K z = K x → z < x → z ≤ y) ∨
  ((∀ z ∈ kp, K z = K x → ¬ z < x) ∧ ((∀ t, Dp t → K t ≠ K x) ∨ ∃ t, Dp t ∧ K t = K x ∧ th t = 0 ∧ ∀ t', Dp t' → K t' = K x → t' ≤ t))
/-- what a merge keeps: of the list ml, the list kp -/
def Kpt (K th : Nat → Nat) (vs : Nat → Prop) (S Dp : Nat → Prop) (ml kp : List Nat) : Prop :=
  (∀ x ∈ kp, x ∈ ml) ∧ ∀ x ∈ ml, ∀ m, vs m → x ≤ m → (∀ t, S t → K t = K x → x < t → m < t) → x ∈ kp ∨ (th x = 0 ∧ drp K th kp Dp x)
theorem val_keep {K th : Nat → Nat} {vs S S' Dp : Nat → Prop} {ml kp : List Nat} (hk : Kpt K th vs S Dp ml kp)
    (hml : ∀ x ∈ ml, S x) (hS' : ∀ t, S' t ↔ (S t ∧ t ∉ ml) ∨ t ∈ kp) (hDS : ∀ t, Dp t → S t ∧ t ∉ ml)
    (hcl : ∀ x ∈ ml, ∀ t, S t → K t = K x → t ∈ ml ∨ (∀ y ∈ ml, K y = K x → y < t) ∨ Dp t)
    (hD : ∀ x ∈ ml, ∀ t, Dp t → K t = K x → t < x) {m : Nat} (hm : vs m) (t : Nat) : sst K th S' m t ↔ sst K th S m t := by
  have sub : ∀ t, S' t → S t := fun t h => by
    rcases (hS' t).mp h with h | h
    · exact h.1
    · exact hml t (hk.1 t h)
  constructor
  · rintro ⟨h1, h2, h3, h4⟩
    refine ⟨sub t h1, h2, h3, fun t' a1 a2 a3 a4 => ?_⟩
    obtain ⟨y, b1, b2, b3, b4, b5⟩ := nwst K S (k := K t) (m := m) m t' (by omega) a1 a4 a3
    have hyt : t < y := by omega
    have hny : ¬ S' y := fun q => h4 y q hyt b4 b2
    have hyml : y ∈ ml := by
      by_cases q : y ∈ ml
      · exact q
      · exact absurd ((hS' y).mpr (Or.inl ⟨b1, q⟩)) hny
    rcases hk.2 y hyml m hm b4 (fun t' c1 c2 c3 => by
      by_cases q : t' ≤ m
      · have := b5 t' c1 (c2.trans b2) q
        omega
      · omega) with q | ⟨q0, q⟩
    · exact hny ((hS' y).mpr (Or.inr q))
    · rcases q with ⟨z, z1, z2, z3, z4, z5⟩ | ⟨n1, n2⟩
      · have hz : S' z := (hS' z).mpr (Or.inr z1)
        have hzt : t < z := by
          rcases (hS' t).mp h1 with g | g
          · rcases hcl y hyml t g.1 b2.symm with w | w | w
            · exact absurd w g.2
            · have := w y hyml rfl
              omega
            · exact hD z (hk.1 z z1) t w (b2.symm.trans z2.symm)
          · have := z5 t g b2.symm hyt
            rcases Nat.lt_or_ge t z with w | w
            · exact w
            · have e : t = z := by omega
              rw [e, z4] at h3
              cases h3
        exact h4 z hz hzt (by omega) (z2.trans b2)
      · rcases (hS' t).mp h1 with g | g
        · rcases hcl y hyml t g.1 b2.symm with w | w | w
          · exact absurd w g.2
          · have := w y hyml rfl
            omega
          · rcases n2 with n2 | ⟨z, z1, z2, z3, z4⟩
            · exact n2 t w b2.symm
            · have e1 := z4 t w b2.symm
              have hne : t ≠ z := fun e => by rw [e, z3] at h3; cases h3
              have hz := hDS z z1
              have hzS : S' z := (hS' z).mpr (Or.inl hz)
              have hzy : z < y := hD y hyml z z1 z2
              exact h4 z hzS (by omega) (by omega) (z2.trans b2)
        · exact n1 t g b2.symm hyt
  · rintro ⟨h1, h2, h3, h4⟩
    refine ⟨?_, h2, h3, fun t' a1 => h4 t' (sub t' a1)⟩
    by_cases q : t ∈ ml
    · rcases hk.2 t q m hm h2 (fun t' a1 a2 a3 => by
        rcases Nat.lt_or_ge m t' with w | w
        · exact w
        · exact absurd a2 (h4 t' a1 a3 w)) with w | w
      · exact (hS' t).mpr (Or.inr w)
      · rw [h3] at w
        cases w.1
    · exact (hS' t).mpr (Or.inl ⟨h1, q⟩)
/-- what is known of the deeper runs -/
def dvf (K th : Nat → Nat) (Dp : Nat → Prop) (x w : Nat) : Prop := (w = 0 ∧ ∀ t, Dp t → K t ≠ K x) ∨ ∃ t, Dp t ∧ K t = K x ∧ w = th t ∧ ∀ t', Dp t' → K t' = K x → t' ≤ t
/-- the merge ahead of the rest: what is kept so far, whether the key is begun, what stood there -/
def Kin (K th : Nat → Nat) (vs S Dp : Nat → Prop) (pre kp rest : List Nat) (ib wt : Nat) : Prop :=
  Kpt K th vs S Dp pre kp ∧ (ib = 0 ∨ ib = 1) ∧ ∀ x r, rest = x :: r → (ib = 1 → ∃ y ∈ kp, K y = K x ∧ y < x ∧ (∀ z ∈ kp, K z = K x → z ≤ y) ∧ wt = th y) ∧ (ib = 0 → ∀ z ∈ kp, K z ≠ K x)
theorem Kin_0 {K th : Nat → Nat} {vs S Dp : Nat → Prop} (l : List Nat) (w : Nat) : Kin K th vs S Dp [] [] l 0 w :=
  ⟨⟨fun x h => h, fun x h => by cases h⟩, Or.inl rfl, fun x r _ => ⟨(fun h => by cases h), (fun _ z h => by cases h)⟩⟩
section KSTEP
variable {K th : Nat → Nat} {vs S Dp : Nat → Prop} {pre kp rest : List Nat} {ib wt x u wt' : Nat}
theorem So_mid (h : So K (pre ++ x :: rest)) (hlt : ∀ y ∈ pre ++ x :: rest, y < 1023) : (∀ y ∈ pre, K y ≤ K x ∧ (K y = K x → y < x)) ∧ ∀ y ∈ rest, K x ≤ K y ∧ (K y = K x → x < y) := by
  have hp := List.pairwise_append.mp h
  have hx : x < 1023 := hlt x (by simp)
  constructor
  · intro y hy
    have h1 := hp.2.2 y hy x List.mem_cons_self
    have h2 := hlt y (List.mem_append_left _ hy)
    have := (oN_lt (K := K) (by omega) (by omega)).mp h1
    omega
  · intro y hy
    have h1 := (List.pairwise_cons.mp hp.2.1).1 y hy
    have h2 := hlt y (List.mem_append_right _ (List.mem_cons_of_mem _ hy))
    have := (oN_lt (K := K) (by omega) (by omega)).mp h1
    omega
theorem drp_app {y : Nat} (h : drp K th kp Dp y) (hx : K x = K y → y < x) : drp K th (kp ++ [x]) Dp y := by
  rcases h with ⟨z, h1, h2, h3, h4, h5⟩ | ⟨h1, h2⟩
  · refine Or.inl ⟨z, List.mem_append_left _ h1, h2, h3, h4, fun w hw a b => ?_⟩
    rcases List.mem_append.mp hw with hw | hw
    · exact h5 w hw a b
    · have e : w = x := by simpa using hw
      subst e
      have := hx a
      omega
  · refine Or.inr ⟨fun w hw a b => ?_, h2⟩
    rcases List.mem_append.mp hw with hw | hw
    · exact h1 w hw a b
    · have e : w = x := by simpa using hw
      subst e
      have := hx a
      omega
/-- a version is kept -/
theorem kstepY (h : Kin K th vs S Dp pre kp (x :: rest) ib wt) (hso : So K (pre ++ x :: rest)) (hlt : ∀ y ∈ pre ++ x :: rest, y < 1023) {ib' : Nat} (hl : ib' = 0 ∨ ib' = 1) (hl1 : ∀ y r, rest = y :: r → (ib' = 1 ↔ K y = K x)) :
    Kin K th vs S Dp (pre ++ [x]) (kp ++ [x]) rest ib' (th x) := by
  obtain ⟨⟨k1, k2⟩, k3, k4⟩ := h
  obtain ⟨s1, s2⟩ := So_mid hso hlt
  refine ⟨⟨fun y hy => ?_, fun y hy m a b c => ?_⟩, hl, fun y r e => ⟨fun q => ?_, fun q z hz => ?_⟩⟩
  · rcases List.mem_append.mp hy with hy | hy
    · exact List.mem_append_left _ (k1 y hy)
    · exact List.mem_append_right _ hy
  · rcases List.mem_append.mp hy with hy | hy
    · rcases k2 y hy m a b c with q | q
      · exact Or.inl (List.mem_append_left _ q)
      · exact Or.inr ⟨q.1, drp_app q.2 (fun e => (s1 y hy).2 e.symm)⟩
    · exact Or.inl (List.mem_append_right _ hy)
  · have e1 := (hl1 y r e).mp q
    have e2 := (s2 y (by rw [e]; exact List.mem_cons_self)).2 e1
    refine ⟨x, by simp, e1.symm, e2, fun z hz a => ?_, rfl⟩
    rcases List.mem_append.mp hz with hz | hz
    · have := (s1 z (k1 z hz)).2 (by omega)
      omega
    · have : z = x := by simpa using hz
      omega
  · have e1 : ¬ K y = K x := fun g => by have := (hl1 y r e).mpr g; omega
    have e2 := s2 y (by rw [e]; exact List.mem_cons_self)
    rcases List.mem_append.mp hz with hz | hz
    · have := (s1 z (k1 z hz)).1
      omega
    · have : z = x := by simpa using hz
      subst this
      exact fun g => e1 g.symm
/-- a version is left out -/
theorem kstepN (h : Kin K th vs S Dp pre kp (x :: rest) ib wt) (hso : So K (pre ++ x :: rest)) (hlt : ∀ y ∈ pre ++ x :: rest, y < 1023) (hth : ∀ t, th t = 0 ∨ th t = 1) (hvs : ∀ m, vs m → m < 1023) (hu : nxS K S x u)
    (hw1 : ib = 1 → wt' = wt) (hw0 : ib = 0 → th x = 0 → dvf K th Dp x wt') (hk : ¬ ((∃ m, vs m ∧ x ≤ m ∧ m < u) ∧ (th x = 1 ∨ wt' = 1)))
    {ib' : Nat} (hl0 : (∀ y r, rest = y :: r → K y ≠ K x) → ib' = 0) (hl1 : ∀ y r, rest = y :: r → K y = K x → ib' = ib) (hl2 : ∀ y r, rest = y :: r → K y ≠ K x → ib' = 0) :
    Kin K th vs S Dp (pre ++ [x]) kp rest ib' wt' := by
  obtain ⟨⟨k1, k2⟩, k3, k4⟩ := h
  obtain ⟨s1, s2⟩ := So_mid hso hlt
  have hib : ib' = 0 ∨ ib' = 1 := by
    cases rest with
    | nil => exact Or.inl (hl0 (fun y r e => by cases e))
    | cons y r =>
      by_cases c : K y = K x
      · rw [hl1 y r rfl c]
        exact k3
      · exact Or.inl (hl2 y r rfl c)
  refine ⟨⟨fun y hy => List.mem_append_left _ (k1 y hy), fun y hy m a b c => ?_⟩, hib, fun y r e => ⟨fun q => ?_, fun q z hz => ?_⟩⟩
  · rcases List.mem_append.mp hy with hy | hy
    · exact k2 y hy m a b c
    · have e : y = x := by simpa using hy
      subst e
      have hmu : m < u := by
        rcases hu with ⟨q, -⟩ | ⟨q1, q2, q3, -⟩
        · have := hvs m a
          omega
        · exact c u q1 q2 q3
      have hn : ¬ (th y = 1 ∨ wt' = 1) := fun q => hk ⟨⟨m, a, b, hmu⟩, q⟩
      have ht0 : th y = 0 := by
        rcases hth y with q | q
        · exact q
        · exact absurd (Or.inl q) hn
      refine Or.inr ⟨ht0, ?_⟩
      rcases k3 with i0 | i1
      · have hnk := (k4 y rest rfl).2 i0
        refine Or.inr ⟨fun z hz g => absurd g (hnk z hz), ?_⟩
        rcases hw0 i0 ht0 with ⟨-, q⟩ | ⟨t, q1, q2, q3, q4⟩
        · exact Or.inl q
        · refine Or.inr ⟨t, q1, q2, ?_, q4⟩
          rcases hth t with g | g
          · exact g
          · exact absurd (Or.inr (by rw [q3, g])) hn
      · obtain ⟨z, z1, z2, z3, z4, z5⟩ := (k4 y rest rfl).1 i1
        refine Or.inl ⟨z, z1, z2, z3, ?_, fun w hw g _ => z4 w hw g⟩
        rcases hth z with g | g
        · exact g
        · exact absurd (Or.inr (by rw [hw1 i1, z5, g])) hn
  · have hKy : K y = K x := by
      by_cases c : K y = K x
      · exact c
      · have := hl2 y r e c
        omega
    have hib1 : ib = 1 := by rw [← hl1 y r e hKy]; exact q
    obtain ⟨z, z1, z2, z3, z4, z5⟩ := (k4 x rest rfl).1 hib1
    have e2 := (s2 y (by rw [e]; exact List.mem_cons_self)).2 hKy
    exact ⟨z, z1, by omega, by omega, fun w hw g => z4 w hw (by omega), by rw [hw1 hib1, z5]⟩
  · by_cases c : K y = K x
    · have hib0 : ib = 0 := by rw [← hl1 y r e c]; exact q
      rw [c]
      exact (k4 x rest rfl).2 hib0 z hz
    · have e1 := (s1 z (k1 z hz)).1
      have e2 := (s2 y (by rw [e]; exact List.mem_cons_self)).1
      omega
end KSTEP
/-- what is kept, cut into tables -/
def apt (K : Nat → Nat) (A B : List Nat) : Prop := ∀ a ∈ A, ∀ b ∈ B, K a < K b
def Cut (K : Nat → Nat) (fs : List (List Nat)) (cur kp : List Nat) : Prop := fs.flatten ++ cur = kp ∧ (fs ++ [cur]).Pairwise (apt K) ∧ (cur = [] → fs = []) ∧ ∀ l ∈ fs, 32 ≤ l.length
theorem Cut_0 (K : Nat → Nat) : Cut K [] [] [] := ⟨rfl, List.pairwise_singleton _ _, fun _ => rfl, fun l h => by cases h⟩
theorem Cut_same {K : Nat → Nat} {fs : List (List Nat)} {cur kp : List Nat} {x : Nat} (h : Cut K fs cur kp) (hx : ∀ z ∈ kp, K z ≤ K x) : Cut K fs (cur ++ [x]) (kp ++ [x]) := by
  obtain ⟨h1, h2, h3, h4⟩ := h
  refine ⟨by rw [← h1, List.append_assoc], ?_, fun q => by simp at q, h4⟩
  have hp := List.pairwise_append.mp h2
  refine List.pairwise_append.mpr ⟨hp.1, List.pairwise_singleton _ _, fun A hA B hB a ha b hb => ?_⟩
  have e : B = cur ++ [x] := by simpa using hB
  subst e
  rcases List.mem_append.mp hb with hb | hb
  · exact hp.2.2 A hA cur List.mem_cons_self a ha b hb
  · have e : b = x := by simpa using hb
    subst e
    cases cur with
    | nil =>
      rw [h3 rfl] at hA
      cases hA
    | cons c r =>
      have q1 := hp.2.2 A hA _ List.mem_cons_self a ha c List.mem_cons_self
      have q2 := hx c (by rw [← h1]; simp)
      omega
theorem Cut_new {K : Nat → Nat} {fs : List (List Nat)} {cur kp : List Nat} {x : Nat} (h : Cut K fs cur kp) (hc : 32 ≤ cur.length) (hx : ∀ z ∈ kp, K z < K x) : Cut K (fs ++ [cur]) [x] (kp ++ [x]) := by
  obtain ⟨h1, h2, h3, h4⟩ := h
  refine ⟨by rw [← h1]; simp, ?_, fun q => by simp at q, fun l hl => ?_⟩
  · refine List.pairwise_append.mpr ⟨h2, List.pairwise_singleton _ _, fun A hA B hB a ha b hb => ?_⟩
    have e : B = [x] := by simpa using hB
    subst e
    have e : b = x := by simpa using hb
    subst e
    refine hx a ?_
    rw [← h1]
    rcases List.mem_append.mp hA with hA | hA
    · exact List.mem_append_left _ (List.mem_flatten.mpr ⟨A, hA, ha⟩)
    · have e : A = cur := by simpa using hA
      subst e
      exact List.mem_append_right _ ha
  · rcases List.mem_append.mp hl with hl | hl
    · exact h4 l hl
    · have e : l = cur := by simpa using hl
      rw [e]
      exact hc
/-! batches among the runs -/
def mem5 (ms : Nat → List Nat) (t : Nat) : Prop := ∃ r, r < 5 ∧ t ∈ ms r
def age (K : Nat → Nat) (ms : Nat → List Nat) : Prop := ∀ r r', r < r' → r' < 5 → ∀ t ∈ ms r, ∀ t' ∈ ms r', K t = K t' → t' < t
def dpr (ms : Nat → List Nat) (l t : Nat) : Prop := ∃ r, l + 2 ≤ r ∧ r < 5 ∧ t ∈ ms r
/-- a batch that goes to run l + 1: what it covers -/
def Cov (K : Nat → Nat) (ms : Nat → List Nat) (l : Nat) (ml : List Nat) : Prop := (∀ x ∈ ml, ∃ r, r ≤ l + 1 ∧ x ∈ ms r) ∧ ∀ x ∈ ml, ∀ r, r < 5 → ∀ t ∈ ms r, K t = K x → t ∈ ml ∨ (r ≤ l ∧ x < t) ∨ (l + 2 ≤ r ∧ t < x)
section COV
variable {K th : Nat → Nat} {ms : Nat → List Nat} {l : Nat} {ml : List Nat}
theorem age_dj (h : age K ms) {r r' t : Nat} (hr : r < 5) (hr' : r' < 5) (h1 : t ∈ ms r) (h2 : t ∈ ms r') : r = r' := by
  rcases Nat.lt_trichotomy r r' with c | c | c
  · exact absurd (h r r' c hr' t h1 t h2 rfl) (Nat.lt_irrefl _)
  · exact c
  · exact absurd (h r' r c hr t h2 t h1 rfl) (Nat.lt_irrefl _)
theorem Cov_dp (ha : age K ms) (hc : Cov K ms l ml) {t : Nat} (h : dpr ms l t) : mem5 ms t ∧ t ∉ ml := by
  obtain ⟨r, h1, h2, h3⟩ := h
  refine ⟨⟨r, h2, h3⟩, fun q => ?_⟩
  obtain ⟨r', g1, g2⟩ := hc.1 t q
  have := age_dj ha h2 (by omega) h3 g2
  omega
theorem Cov_lt (ha : age K ms) (hc : Cov K ms l ml) {t x : Nat} (hx : x ∈ ml) (h : dpr ms l t) (hk : K t = K x) : t < x := by
  have h1 := (Cov_dp ha hc h).2
  obtain ⟨r, h2, h3, h4⟩ := h
  rcases hc.2 x hx r h3 t h4 hk with q | q | q
  · exact absurd q h1
  · omega
  · exact q.2
theorem Cov_nx1 (ha : age K ms) (hc : Cov K ms l ml) (hl : l < 4) {x u : Nat} (hx : x ∈ ml) (hlast : ∀ y ∈ ml, K y = K x → ¬ x < y)
    (h : (u = 1023 ∧ ∀ r, r ≤ l → ∀ t ∈ ms r, K t = K x → t ≤ x) ∨ ∃ r, r ≤ l ∧ u ∈ ms r ∧ K u = K x ∧ x < u ∧ (∀ t ∈ ms r, K t = K x → x < t → u ≤ t) ∧ ∀ r', r < r' → r' ≤ l → ∀ t ∈ ms r', K t = K x → t ≤ x) : nxS K (mem5 ms) x u := by
  rcases h with ⟨h1, h2⟩ | ⟨r, h1, h2, h3, h4, h5, h6⟩
  · refine Or.inl ⟨h1, fun t ht hk => ?_⟩
    obtain ⟨r, g1, g2⟩ := ht
    rcases hc.2 x hx r g1 t g2 hk with q | q | q
    · have := hlast t q hk
      omega
    · exact h2 r q.1 t g2 hk
    · omega
  · refine Or.inr ⟨⟨r, by omega, h2⟩, h3, h4, fun t ht hk hxt => ?_⟩
    obtain ⟨r', g1, g2⟩ := ht
    rcases hc.2 x hx r' g1 t g2 hk with q | q | q
    · exact absurd hxt (hlast t q hk)
    · rcases Nat.lt_trichotomy r r' with c | c | c
      · have := h6 r' c q.1 t g2 hk
        omega
      · subst c
        exact h5 t g2 hk hxt
      · have := ha r' r c (by omega) t g2 u h2 (by omega)
        omega
    · omega
theorem Cov_nx2 (hc : Cov K ms l ml) (hl : l < 4) {pre rest : List Nat} {x y : Nat} (e : ml = pre ++ x :: y :: rest) (hso : So K ml) (hlt : ∀ z ∈ ml, z < 1023) (hk : K y = K x) : nxS K (mem5 ms) x y := by
  have hy : y ∈ ml := by rw [e]; simp
  have hx : x ∈ ml := by rw [e]; simp
  subst e
  have s1 := So_mid (pre := pre) (x := x) (rest := y :: rest) hso hlt
  have s2 := So_mid (pre := pre ++ [x]) (x := y) (rest := rest) (by simpa using hso) (by simpa using hlt)
  obtain ⟨r0, a1, a2⟩ := hc.1 y hy
  · refine Or.inr ⟨⟨r0, by omega, a2⟩, hk, (s1.2 y List.mem_cons_self).2 hk, fun t ht hkt hxt => ?_⟩
    obtain ⟨r, g1, g2⟩ := ht
    rcases hc.2 y hy r g1 t g2 (by omega) with q | q | q
    · rcases List.mem_append.mp q with q | q
      · have := (s1.1 t q).2 hkt
        omega
      · rcases List.mem_cons.mp q with q | q
        · omega
        · rcases List.mem_cons.mp q with q | q
          · omega
          · have := (s2.2 t q).2 (by omega)
            omega
    · omega
    · rcases hc.2 x hx r g1 t g2 hkt with q' | q' | q'
      · rcases List.mem_append.mp q' with q' | q'
        · have := (s1.1 t q').2 hkt
          omega
        · rcases List.mem_cons.mp q' with q' | q'
          · omega
          · rcases List.mem_cons.mp q' with q' | q'
            · omega
            · have := (s2.2 t q').2 (by omega)
              omega
      · omega
      · omega
theorem Cov_dv (ha : age K ms) (hc : Cov K ms l ml) {x b : Nat} (hx : x ∈ ml)
    (h : (b = 0 ∧ ∀ r, l + 2 ≤ r → r < 5 → ∀ t ∈ ms r, K t = K x → ¬ t ≤ x) ∨ ∃ r t, l + 2 ≤ r ∧ r < 5 ∧ t ∈ ms r ∧ K t = K x ∧ (∀ t' ∈ ms r, K t' = K x → t' ≤ x → t' ≤ t) ∧ (∀ r', l + 2 ≤ r' → r' < r → ∀ t' ∈ ms r', K t' = K x → ¬ t' ≤ x) ∧ b = th t) : dvf K th (dpr ms l) x b := by
  rcases h with ⟨h1, h2⟩ | ⟨r, t, h1, h2, h3, h4, h5, h6, h7⟩
  · refine Or.inl ⟨h1, fun t ht hk => ?_⟩
    have := Cov_lt ha hc hx ht hk
    obtain ⟨r, g1, g2, g3⟩ := ht
    have := h2 r g1 g2 t g3 hk
    omega
  · refine Or.inr ⟨t, ⟨r, h1, h2, h3⟩, h4, h7, fun t' ht' hk => ?_⟩
    have e := Cov_lt ha hc hx ht' hk
    obtain ⟨r', g1, g2, g3⟩ := ht'
    rcases Nat.lt_trichotomy r r' with c | c | c
    · have := ha r r' c g2 t h3 t' g3 (by omega)
      omega
    · subst c
      exact h5 t' g3 hk (by omega)
    · have := h6 r' g1 c t' g3 hk
      omega
/-- behind the batch: what stands at the moments that are seen is the same; newer is higher up -/
theorem Cov_val {vs : Nat → Prop} {ms' : Nat → List Nat} {kp : List Nat} (ha : age K ms) (hc : Cov K ms l ml) (hl : l < 4) (hk : Kpt K th vs (mem5 ms) (dpr ms l) ml kp)
    (h1 : ∀ r, r < 5 → ∀ t, t ∈ ms' r ↔ (t ∈ ms r ∧ t ∉ ml) ∨ (r = l + 1 ∧ t ∈ kp)) {m : Nat} (hm : vs m) (t : Nat) : sst K th (mem5 ms') m t ↔ sst K th (mem5 ms) m t := by
  refine val_keep hk (fun x hx => ?_) (fun t => ?_) (fun t ht => Cov_dp ha hc ht) (fun x hx t ht hkt => ?_) (fun x hx t ht hkt => Cov_lt ha hc hx ht hkt) hm t
  · obtain ⟨r, g1, g2⟩ := hc.1 x hx
    exact ⟨r, by omega, g2⟩
  · constructor
    · rintro ⟨r, g1, g2⟩
      rcases (h1 r g1 t).mp g2 with q | q
      · exact Or.inl ⟨⟨r, g1, q.1⟩, q.2⟩
      · exact Or.inr q.2
    · rintro (⟨⟨r, g1, g2⟩, g3⟩ | q)
      · exact ⟨r, g1, (h1 r g1 t).mpr (Or.inl ⟨g2, g3⟩)⟩
      · exact ⟨l + 1, by omega, (h1 (l + 1) (by omega) t).mpr (Or.inr ⟨rfl, q⟩)⟩
  · obtain ⟨r, g1, g2⟩ := ht
    by_cases c : t ∈ ml
    · exact Or.inl c
    · rcases hc.2 x hx r g1 t g2 hkt with q | q | q
      · exact Or.inl q
      · refine Or.inr (Or.inl (fun y hy hky => ?_))
        rcases hc.2 y hy r g1 t g2 (by omega) with w | w | w
        · exact absurd w c
        · exact w.2
        · omega
      · exact Or.inr (Or.inr ⟨r, q.1, g1, g2⟩)
theorem Cov_age {ms' : Nat → List Nat} {kp : List Nat} (ha : age K ms) (hc : Cov K ms l ml) (hkp : ∀ x ∈ kp, x ∈ ml)
    (h1 : ∀ r, r < 5 → ∀ t, t ∈ ms' r ↔ (t ∈ ms r ∧ t ∉ ml) ∨ (r = l + 1 ∧ t ∈ kp)) : age K ms' := by
  intro r r' hrr hr' t ht t' ht' hk
  rcases (h1 r (by omega) t).mp ht with ⟨a1, a2⟩ | ⟨a1, a2⟩
  · rcases (h1 r' hr' t').mp ht' with ⟨b1, b2⟩ | ⟨b1, b2⟩
    · exact ha r r' hrr hr' t a1 t' b1 hk
    · rcases hc.2 t' (hkp t' b2) r (by omega) t a1 hk with q | q | q
      · exact absurd q a2
      · exact q.2
      · omega
  · rcases (h1 r' hr' t').mp ht' with ⟨b1, b2⟩ | ⟨b1, b2⟩
    · rcases hc.2 t (hkp t a2) r' hr' t' b1 hk.symm with q | q | q
      · exact absurd q b2
      · omega
      · exact q.2
    · omega
end COV
