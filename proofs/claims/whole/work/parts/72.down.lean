/-! a batch of a run's first part with the tables below that it overlaps (own text) -/
def stl (ts : List (List Nat)) (j : Nat) : Nat := (ts.take j).flatten.length
theorem stl_s {ts : List (List Nat)} {j : Nat} (h : j < ts.length) : stl ts (j + 1) = stl ts j + (ts.getD j []).length := by
  unfold stl
  rw [List.take_add_one, List.getD_eq_getElem?_getD, List.getElem?_eq_getElem h, List.flatten_append, List.length_append]
  congr 1
  simp
theorem stl_lt {ts : List (List Nat)} (hne : ∀ l ∈ ts, l ≠ []) : ∀ (k j : Nat), j + k + 1 ≤ ts.length → stl ts j < stl ts (j + k + 1)
  | 0, j, h => by
    rw [Nat.add_zero, stl_s (by omega)]
    have h1 : ts.getD j [] ∈ ts := by
      rw [List.getD_eq_getElem?_getD, List.getElem?_eq_getElem (by omega)]
      exact List.getElem_mem _
    have h2 := List.length_pos_iff.mpr (hne _ h1)
    omega
  | k + 1, j, h => by
    have h0 := stl_lt hne k j (by omega)
    have h1 := stl_lt hne 0 (j + k + 1) (by omega)
    rw [show j + (k + 1) + 1 = j + k + 1 + 0 + 1 by omega]
    omega
theorem stl_mono {ts : List (List Nat)} (hne : ∀ l ∈ ts, l ≠ []) {a b : Nat} (h : a < b) (hb : b ≤ ts.length) : stl ts a < stl ts b := by
  have := stl_lt hne (b - a - 1) a (by omega)
  rwa [show a + (b - a - 1) + 1 = b by omega] at this
theorem stl_all (ts : List (List Nat)) : stl ts ts.length = ts.flatten.length := by
  unfold stl
  rw [List.take_length]
/-- where the tables lie that a stretch of keys overlaps -/
def Ovl (K : Nat → Nat) (ts : List (List Nat)) (lo hi a b : Nat) : Prop := a ≤ b ∧ b ≤ ts.length ∧ (∀ t ∈ (ts.take a).flatten, K t < lo) ∧ ∀ t ∈ (ts.drop b).flatten, hi < K t
theorem ovl {K : Nat → Nat} {ts : List (List Nat)} {lo hi a b k k' : Nat} (hne : ∀ l ∈ ts, l ≠ []) (hlt : ∀ t ∈ ts.flatten, t < 1023) (hlh : lo ≤ hi)
    (k1 : k ≤ ts.flatten.length) (k2 : ∀ i, i < k → oN K (ts.flatten.getD i 0) < lo * 1024) (k4 : ts.flatten.length ≤ k → a = ts.length) (k5 : k < ts.flatten.length → a < ts.length ∧ stl ts a ≤ k ∧ k < stl ts (a + 1))
    (q1 : k' ≤ ts.flatten.length) (q3 : ∀ i, k' ≤ i → i < ts.flatten.length → hi * 1024 + 1023 ≤ oN K (ts.flatten.getD i 0)) (q4 : k' = 0 → b = 0) (q5 : 0 < k' → 1 ≤ b ∧ b ≤ ts.length ∧ stl ts (b - 1) < k' ∧ k' ≤ stl ts b) : Ovl K ts lo hi a b := by
  have hb : b ≤ ts.length := by
    rcases Nat.eq_zero_or_pos k' with c | c
    · rw [q4 c]
      omega
    · exact (q5 c).2.1
  have ha : stl ts a ≤ k ∧ a ≤ ts.length := by
    rcases Nat.lt_or_ge k ts.flatten.length with c | c
    · have := k5 c
      omega
    · rw [k4 c, stl_all]
      omega
  have hkk : k ≤ k' := by
    rcases Nat.lt_or_ge k' k with c | c
    · have e1 := k2 k' c
      have e2 := q3 k' (Nat.le_refl _) (by omega)
      omega
    · exact c
  have hkb : k' ≤ stl ts b := by
    rcases Nat.eq_zero_or_pos k' with c | c
    · omega
    · exact (q5 c).2.2.2
  refine ⟨?_, hb, fun t ht => ?_, fun t ht => ?_⟩
  · rcases Nat.lt_or_ge b a with c | c
    · have := stl_mono hne c ha.2
      omega
    · exact c
  · obtain ⟨i, hi, rfl⟩ := List.mem_iff_getElem.mp ht
    have hi' : i < stl ts a := hi
    have hl : i < ts.flatten.length := by omega
    have e : ts.flatten.getD i 0 = (ts.take a).flatten[i] := by
      have h0 : ts.flatten = (ts.take a).flatten ++ (ts.drop a).flatten := by rw [← List.flatten_append, List.take_append_drop]
      rw [h0, List.getD_eq_getElem?_getD, List.getElem?_append_left hi, List.getElem?_eq_getElem hi]
      rfl
    have := k2 i (by omega)
    rw [e] at this
    unfold oN at this
    omega
  · obtain ⟨i, hi, rfl⟩ := List.mem_iff_getElem.mp ht
    have h0 : ts.flatten = (ts.take b).flatten ++ (ts.drop b).flatten := by rw [← List.flatten_append, List.take_append_drop]
    have hl : ts.flatten.length = stl ts b + (ts.drop b).flatten.length := by
      have := congrArg List.length h0
      rw [List.length_append] at this
      exact this
    have e : ts.flatten.getD (stl ts b + i) 0 = (ts.drop b).flatten[i] := by
      rw [h0, List.getD_eq_getElem?_getD, List.getElem?_append_right (show (ts.take b).flatten.length ≤ stl ts b + i from Nat.le_add_right _ _)]
      rw [show stl ts b + i - (ts.take b).flatten.length = i by unfold stl; omega, List.getElem?_eq_getElem hi]
      rfl
    have h1 := q3 (stl ts b + i) (by omega) (by omega)
    have h2 := hlt (ts.drop b).flatten[i] (by rw [h0]; exact List.mem_append_right _ (List.getElem_mem hi))
    rw [e] at h1
    unfold oN at h1
    omega
theorem mem_cut {ts : List (List Nat)} {a b : Nat} (hab : a ≤ b) (t : Nat) : t ∈ ts.flatten ↔ t ∈ (ts.take a).flatten ∨ t ∈ ((ts.take b).drop a).flatten ∨ t ∈ (ts.drop b).flatten := by
  have h0 : ts = ts.take a ++ ((ts.take b).drop a ++ ts.drop b) := by
    have h1 : (ts.take b) = (ts.take b).take a ++ (ts.take b).drop a := (List.take_append_drop a _).symm
    rw [List.take_take, Nat.min_eq_left hab] at h1
    rw [← List.append_assoc, ← h1, List.take_append_drop]
  constructor
  · intro h
    rw [h0] at h
    simpa [List.flatten_append] using h
  · intro h
    rw [h0]
    simpa [List.flatten_append] using h
theorem cut_eq {ts : List (List Nat)} {a b : Nat} (hab : a ≤ b) : ts = ts.take a ++ ((ts.take b).drop a ++ ts.drop b) := by
  have h1 : (ts.take b) = (ts.take b).take a ++ (ts.take b).drop a := (List.take_append_drop a _).symm
  rw [List.take_take, Nat.min_eq_left hab] at h1
  rw [← List.append_assoc, ← h1, List.take_append_drop]
theorem apt_fl {K : Nat → Nat} {A B : List (List Nat)} (h : ∀ l ∈ A, ∀ l' ∈ B, apt K l l') {x y : Nat} (hx : x ∈ A.flatten) (hy : y ∈ B.flatten) : K x < K y := by
  obtain ⟨l, h1, h2⟩ := List.mem_flatten.mp hx
  obtain ⟨l', h3, h4⟩ := List.mem_flatten.mp hy
  exact h l h1 l' h3 x h2 y h4
section DOWN
variable {K : Nat → Nat} {ms : Nat → List Nat} {u lo hi a b : Nat} {l0 rest : List Nat} {ts : List (List Nat)} {ml : List Nat}
/-- run u's first part l0, and what it overlaps of run u + 1 -/
theorem dn_cov (ha : age K ms) (hu : u < 4) (h0 : ms u = l0 ++ rest) (hr : ∀ x ∈ l0, ∀ y ∈ rest, K x < K y) (h1 : ms (u + 1) = ts.flatten) (hts : ts.Pairwise (apt K)) (ho : Ovl K ts lo hi a b) (hl0 : ∀ x ∈ l0, lo ≤ K x ∧ K x ≤ hi)
    (hml : ∀ t, t ∈ ml ↔ t ∈ l0 ∨ t ∈ ((ts.take b).drop a).flatten) : Cov K ms u ml := by
  obtain ⟨o1, o2, o3, o4⟩ := ho
  have e := cut_eq (ts := ts) o1
  have hp := hts
  rw [e] at hp
  have hp1 := List.pairwise_append.mp hp
  have hp2 := List.pairwise_append.mp hp1.2.1
  have mid : ∀ x, x ∈ ((ts.take b).drop a).flatten → x ∈ ms (u + 1) := fun x hx => by rw [h1]; exact (mem_cut o1 x).mpr (Or.inr (Or.inl hx))
  have mu : ∀ x ∈ l0, x ∈ ms u := fun x hx => by rw [h0]; exact List.mem_append_left _ hx
  refine ⟨fun x hx => ?_, fun x hx r hr5 t ht hk => ?_⟩
  · rcases (hml x).mp hx with q | q
    · exact ⟨u, by omega, mu x q⟩
    · exact ⟨u + 1, by omega, mid x q⟩
  · rcases Nat.lt_trichotomy r u with c | c | c
    · refine Or.inr (Or.inl ⟨by omega, ?_⟩)
      rcases (hml x).mp hx with q | q
      · exact ha r u c (by omega) t ht x (mu x q) hk
      · exact ha r (u + 1) (by omega) (by omega) t ht x (mid x q) hk
    · subst c
      by_cases ct : t ∈ ml
      · exact Or.inl ct
      · refine Or.inr (Or.inl ⟨by omega, ?_⟩)
        rcases (hml x).mp hx with q | q
        · rw [h0] at ht
          rcases List.mem_append.mp ht with w | w
          · exact absurd ((hml t).mpr (Or.inl w)) ct
          · have := hr x q t w
            omega
        · exact ha r (r + 1) (by omega) (by omega) t ht x (mid x q) hk
    · by_cases c2 : r = u + 1
      · subst c2
        refine Or.inl ((hml t).mpr (Or.inr ?_))
        rw [h1] at ht
        rcases (mem_cut o1 t).mp ht with w | w | w
        · exfalso
          rcases (hml x).mp hx with q | q
          · have e1 := o3 t w
            have e2 := hl0 x q
            omega
          · have := apt_fl (fun l hl l' hl' => hp1.2.2 l hl l' (List.mem_append_left _ hl')) w q
            omega
        · exact w
        · exfalso
          rcases (hml x).mp hx with q | q
          · have e1 := o4 t w
            have e2 := hl0 x q
            omega
          · have := apt_fl (fun l hl l' hl' => hp2.2.2 l hl l' hl') q w
            omega
      · refine Or.inr (Or.inr ⟨by omega, ?_⟩)
        rcases (hml x).mp hx with q | q
        · exact ha u r (by omega) hr5 x (mu x q) t ht hk.symm
        · exact ha (u + 1) r (by omega) hr5 x (mid x q) t ht hk.symm
/-- the runs behind it -/
theorem dn_ms {ms' : Nat → List Nat} {fs : List (List Nat)} {kp : List Nat} (ha : age K ms) (hu : u < 4) (h0 : ms u = l0 ++ rest) (hr : ∀ x ∈ l0, ∀ y ∈ rest, K x < K y) (h1 : ms (u + 1) = ts.flatten) (hts : ts.Pairwise (apt K)) (ho : Ovl K ts lo hi a b)
    (hml : ∀ t, t ∈ ml ↔ t ∈ l0 ∨ t ∈ ((ts.take b).drop a).flatten) (hkp : fs.flatten = kp) (e0 : ms' u = rest) (e1 : ms' (u + 1) = (ts.take a ++ fs ++ ts.drop b).flatten) (e2 : ∀ r, r < 5 → r ≠ u → r ≠ u + 1 → ms' r = ms r) :
    ∀ r, r < 5 → ∀ t, t ∈ ms' r ↔ (t ∈ ms r ∧ t ∉ ml) ∨ (r = u + 1 ∧ t ∈ kp) := by
  obtain ⟨o1, o2, o3, o4⟩ := ho
  have e := cut_eq (ts := ts) o1
  have hp := hts
  rw [e] at hp
  have hp1 := List.pairwise_append.mp hp
  have hp2 := List.pairwise_append.mp hp1.2.1
  have mid : ∀ x, x ∈ ((ts.take b).drop a).flatten → x ∈ ms (u + 1) := fun x hx => by rw [h1]; exact (mem_cut o1 x).mpr (Or.inr (Or.inl hx))
  have mu : ∀ x ∈ l0, x ∈ ms u := fun x hx => by rw [h0]; exact List.mem_append_left _ hx
  intro r hr5 t
  by_cases c : r = u
  · subst c
    rw [e0]
    constructor
    · intro ht
      have ht' : t ∈ ms r := by rw [h0]; exact List.mem_append_right _ ht
      refine Or.inl ⟨ht', fun q => ?_⟩
      rcases (hml t).mp q with q | q
      · exact absurd (hr t q t ht) (Nat.lt_irrefl _)
      · have := age_dj ha hr5 (by omega) ht' (mid t q)
        omega
    · rintro (⟨q1, q2⟩ | ⟨q, -⟩)
      · rw [h0] at q1
        rcases List.mem_append.mp q1 with w | w
        · exact absurd ((hml t).mpr (Or.inl w)) q2
        · exact w
      · omega
  · by_cases c2 : r = u + 1
    · subst c2
      rw [e1, List.flatten_append, List.flatten_append, hkp]
      constructor
      · intro ht
        rcases List.mem_append.mp ht with ht | ht
        · rcases List.mem_append.mp ht with ht | ht
          · have ht' : t ∈ ms (u + 1) := by rw [h1]; exact (mem_cut o1 t).mpr (Or.inl ht)
            refine Or.inl ⟨ht', fun q => ?_⟩
            rcases (hml t).mp q with q | q
            · have := age_dj ha hr5 (by omega) ht' (mu t q)
              omega
            · exact absurd (apt_fl (fun l hl l' hl' => hp1.2.2 l hl l' (List.mem_append_left _ hl')) ht q) (Nat.lt_irrefl _)
          · exact Or.inr ⟨rfl, ht⟩
        · have ht' : t ∈ ms (u + 1) := by rw [h1]; exact (mem_cut o1 t).mpr (Or.inr (Or.inr ht))
          refine Or.inl ⟨ht', fun q => ?_⟩
          rcases (hml t).mp q with q | q
          · have := age_dj ha hr5 (by omega) ht' (mu t q)
            omega
          · exact absurd (apt_fl (fun l hl l' hl' => hp2.2.2 l hl l' hl') q ht) (Nat.lt_irrefl _)
      · rintro (⟨q1, q2⟩ | ⟨-, q⟩)
        · rw [h1] at q1
          rcases (mem_cut o1 t).mp q1 with w | w | w
          · exact List.mem_append_left _ (List.mem_append_left _ w)
          · exact absurd ((hml t).mpr (Or.inr w)) q2
          · exact List.mem_append_right _ w
        · exact List.mem_append_left _ (List.mem_append_right _ q)
    · rw [e2 r hr5 c c2]
      constructor
      · intro ht
        refine Or.inl ⟨ht, fun q => ?_⟩
        rcases (hml t).mp q with q | q
        · have := age_dj ha hr5 (by omega) ht (mu t q)
          omega
        · have := age_dj ha hr5 (by omega) ht (mid t q)
          omega
      · rintro (⟨q1, -⟩ | ⟨q, -⟩)
        · exact q1
        · omega
/-- the tables behind it are apart -/
theorem dn_apt {fs : List (List Nat)} {kp : List Nat} (hts : ts.Pairwise (apt K)) (ho : Ovl K ts lo hi a b) (hl0 : ∀ x ∈ l0, lo ≤ K x ∧ K x ≤ hi)
    (hml : ∀ t, t ∈ ml ↔ t ∈ l0 ∨ t ∈ ((ts.take b).drop a).flatten) (hkp : fs.flatten = kp) (hfs : fs.Pairwise (apt K)) (hsub : ∀ x ∈ kp, x ∈ ml) : (ts.take a ++ fs ++ ts.drop b).Pairwise (apt K) := by
  obtain ⟨o1, o2, o3, o4⟩ := ho
  have e := cut_eq (ts := ts) o1
  have hp := hts
  rw [e] at hp
  have hp1 := List.pairwise_append.mp hp
  have hp2 := List.pairwise_append.mp hp1.2.1
  have inf : ∀ l ∈ fs, ∀ y ∈ l, y ∈ l0 ∨ y ∈ ((ts.take b).drop a).flatten := fun l hl y hy => (hml y).mp (hsub y (by rw [← hkp]; exact List.mem_flatten.mpr ⟨l, hl, hy⟩))
  have g1 : ∀ l ∈ ts.take a, ∀ l' ∈ fs, apt K l l' := fun l hl l' hl' x hx y hy => by
    have hx' : x ∈ (ts.take a).flatten := List.mem_flatten.mpr ⟨l, hl, hx⟩
    rcases inf l' hl' y hy with q | q
    · have := o3 x hx'
      have := hl0 y q
      omega
    · exact apt_fl (fun l hl l' hl' => hp1.2.2 l hl l' (List.mem_append_left _ hl')) hx' q
  have g2 : ∀ l ∈ fs, ∀ l' ∈ ts.drop b, apt K l l' := fun l hl l' hl' x hx y hy => by
    have hy' : y ∈ (ts.drop b).flatten := List.mem_flatten.mpr ⟨l', hl', hy⟩
    rcases inf l hl x hx with q | q
    · have := o4 y hy'
      have := hl0 x q
      omega
    · exact apt_fl (fun l hl l' hl' => hp2.2.2 l hl l' hl') q hy'
  refine List.pairwise_append.mpr ⟨List.pairwise_append.mpr ⟨hp1.1, hfs, g1⟩, hp2.2.1, fun l hl l' hl' => ?_⟩
  rcases List.mem_append.mp hl with q | q
  · exact hp1.2.2 l q l' (List.mem_append_right _ hl')
  · exact g2 l q l' hl'
end DOWN
/-- tables apart and in order: the level is in order -/
theorem So_fl {K : Nat → Nat} : ∀ (ts : List (List Nat)), (∀ t ∈ ts.flatten, t < 1023) → ts.Pairwise (apt K) → (∀ l ∈ ts, So K l) → So K ts.flatten
  | [], _, _, _ => List.Pairwise.nil
  | l :: ts, h, hp, hs => by
    have hp' := List.pairwise_cons.mp hp
    rw [List.flatten_cons]
    refine List.pairwise_append.mpr ⟨hs l List.mem_cons_self, So_fl ts (fun t ht => h t (by rw [List.flatten_cons]; exact List.mem_append_right _ ht)) hp'.2 (fun l' hl' => hs l' (List.mem_cons_of_mem _ hl')), fun x hx y hy => ?_⟩
    obtain ⟨l', g1, g2⟩ := List.mem_flatten.mp hy
    have e1 := hp'.1 l' g1 x hx y g2
    have e2 := h x (by rw [List.flatten_cons]; exact List.mem_append_left _ hx)
    exact (oN_lt (by omega) (by have := h y (by rw [List.flatten_cons]; exact List.mem_append_right _ hy); omega)).mpr (Or.inl e1)
theorem So_sub {K : Nat → Nat} {l l' : List Nat} (h : So K l') (hs : l.Sublist l') : So K l := List.Pairwise.sublist hs h
