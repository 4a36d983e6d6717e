/-! WHAT STAYS WHILE A BATCH IS WRITTEN (own text) -/
def Kc (m0 : j_M) (old : List Nat) (B0 : Nat → Option Nat) (e0 c : Nat) : Prop := c < m0.1 ∧ c ≠ 10 ∧ c ≠ 11 ∧ c ≠ 12 ∧ c ≠ 16 ∧ c ≠ 23 ∧ c ≠ 25 ∧ c ≠ 34 ∧ c ≠ 38 ∧ c ≠ 42 ∧ c ≠ 46 ∧ (c < 48 ∨ 69 ≤ c) ∧ (c ≠ e0 ∨ c = 2) ∧ ∀ b, b ∉ old → B0 b ≠ some c
def Nf (m0 : j_M) (old : List Nat) (B0 : Nat → Option Nat) (e0 : Nat) (m1 : j_M) : Prop := m0.1 ≤ m1.1 ∧ ∀ c, Kc m0 old B0 e0 c → m1.2.2 c = m0.2.2 c
section NF
variable {m0 m1 m2 : j_M} {old : List Nat} {B0 B : Nat → Option Nat} {e0 e : Nat}
theorem Nf_refl : Nf m0 old B0 e0 m0 := ⟨Nat.le_refl _, fun _ _ => rfl⟩
theorem Nf_hf (h : Nf m0 old B0 e0 m1) (h' : Hf m1 m2) : Nf m0 old B0 e0 m2 := ⟨by rw [h'.1]; exact h.1, fun c hc => by
  obtain ⟨a0, a1, a2, a3, a4, a5, a6, a7, a8, a9, a10, a11, a12, a13⟩ := id hc
  rw [h'.2.2 c a5 a6 a4 a7 a8 a9 a10]
  exact h.2 c hc⟩
theorem Nf_wf (h : Nf m0 old B0 e0 m1) (h' : Wf m1 m2) : Nf m0 old B0 e0 m2 := ⟨by rw [h'.1]; exact h.1, fun c hc => by
  obtain ⟨a0, a1, a2, a3, a4, a5, a6, a7, a8, a9, a10, a11, a12, a13⟩ := id hc
  rw [h'.2.2 c (by omega)]
  exact h.2 c hc⟩
theorem Nf_wr (h : Nf m0 old B0 e0 m1) (h' : Wfr m1 m2 old B e) (hB : Bx m0 B0 B) (he : e = e0 ∨ m0.1 ≤ e) : Nf m0 old B0 e0 m2 := ⟨Nat.le_trans h.1 h'.1, fun c hc => by
  obtain ⟨a0, a1, a2, a3, a4, a5, a6, a7, a8, a9, a10, a11, a12, a13⟩ := id hc
  have := h.1
  rw [h'.2 c (by omega) a1 a2 a3 (by omega) (by omega) (by omega) (by
    rcases he with he | he
    · rw [he]; exact a12
    · exact Or.inl (by omega)) (fun b hb q => by
    rcases hB.2 b c q with w | w
    · exact a13 b hb w
    · omega)]
  exact h.2 c hc⟩
theorem Kc_sm {D0 : Nat → Nat → Int64} {cap0 c : Nat} (hR : Rw m0 B0 D0) (hA : Ale m0 e0 cap0) (h78 : 78 ≤ m0.1) (hc : c < 78) (h : c ≠ 10 ∧ c ≠ 11 ∧ c ≠ 12 ∧ c ≠ 16 ∧ c ≠ 23 ∧ c ≠ 25 ∧ c ≠ 34 ∧ c ≠ 38 ∧ c ≠ 42 ∧ c ≠ 46 ∧ (c < 48 ∨ 69 ≤ c)) : Kc m0 old B0 e0 c := by
  obtain ⟨a1, a2, a3, a4, a5, a6, a7, a8, a9, a10, a11⟩ := h
  refine ⟨by omega, a1, a2, a3, a4, a5, a6, a7, a8, a9, a10, a11, ?_, fun b _ q => ?_⟩
  · by_cases cc : cap0 = 0
    · have := hA.1 cc
      omega
    · have := hA.2 cc
      omega
  · have := (hR.1 b c q).1
    omega
theorem Kc_bg {D0 : Nat → Nat → Int64} {c : Nat} {v : j_C} (hR : Rw m0 B0 D0) (hc : 78 ≤ c ∧ c < m0.1) (hv : m0.2.2 c = some v) (hz : ∀ z, v ≠ .inl (1, 48, z)) (he : c ≠ e0) : Kc m0 old B0 e0 c := by
  refine ⟨hc.2, by omega, by omega, by omega, by omega, by omega, by omega, by omega, by omega, by omega, by omega, by omega, Or.inl he, fun b _ q => ?_⟩
  have := (hR.1 b c q).2.2
  rw [hv] at this
  cases this
  exact hz _ rfl
theorem Vs_fr {mem mem' : j_M} (h : Vs mem) (h1 : ∀ c, 14 ≤ c → c < 66 → mem'.2.2 c = mem.2.2 c) : Vs mem' := fun v hv => by
  obtain ⟨f, h2⟩ := h v hv
  unfold vcell at hv
  exact ⟨f, by rw [h1 v (by omega) (by omega)]; exact h2.1, by rw [h1 (v + 1) (by omega) (by omega)]; exact h2.2⟩
theorem Vs_wq {mem mem' : j_M} {hn un : Int32} {a s : Nat → Nat} {fv fn : Nat → Int64} {W : Nat → Nat → Nat → Int64} (h : Vs mem) (hf : Wf mem mem') (hq : Wq mem' hn un a s fv fn W) : Vs mem' := fun v hv => by
  unfold vcell at hv
  by_cases c : v < 47
  · obtain ⟨f, h2⟩ := h v (by unfold vcell; omega)
    exact ⟨f, by rw [hf.2.2 v (by omega)]; exact h2.1, by rw [hf.2.2 (v + 1) (by omega)]; exact h2.2⟩
  · obtain ⟨-, -, -, -, -, w6, w7, w8⟩ := hq
    by_cases c1 : v = 52
    · subst c1
      exact ⟨fv, w6⟩
    · by_cases c2 : v = 54
      · subst c2
        exact ⟨fn, w7⟩
      · obtain ⟨f, e1, -⟩ := w8 ((v - 56) / 2) (by omega)
        rw [show 56 + 2 * ((v - 56) / 2) = v by omega, show 57 + 2 * ((v - 56) / 2) = v + 1 by omega] at e1
        exact ⟨f, e1⟩
end NF
section BSNF
variable {m0 m1 : j_M} {G : Nat → Nat → Int64} {mm : List Nat} {R : Nat → Int64} {E C : Nat → Nat} {LV : Nat → List TG} {B0 B : Nat → Option Nat} {Wn0 T0 U0 Wn T U : Nat → Int32} {D0 D : Nat → Nat → Int64} {old : List Nat} {e0 cap0 : Nat} {xs : List Nat}
theorem Bs_nf (h : Bs m0 G mm R E C LV B0 Wn0 T0 U0 D0) (hA : Al m0 67 e0 cap0 xs) (hAe : Ale m0 e0 cap0) (hE : ∀ k, k < 4 → C k ≠ 0 → E k ≠ e0) (h78 : 78 ≤ m0.1) (hn : Nf m0 old B0 e0 m1) (hC : Cp m1 B Wn T U) (hR : Rw m1 B D) (hB : Bx m0 B0 B) (hold : ∀ k, k < 4 → ∀ τ ∈ LV k, ∀ b ∈ τ.1.2.2.1, b ∈ old) (hD : ∀ b ∈ old, D b = D0 b) : Bs m1 G mm R E C LV B Wn T U D := by
  obtain ⟨b1, b2, b3, b4, b5, b6, b7⟩ := h
  obtain ⟨md, Ef, al1, al2, al3, al4⟩ := hA
  have sm : ∀ c, c < 78 → (c ≠ 10 ∧ c ≠ 11 ∧ c ≠ 12 ∧ c ≠ 16 ∧ c ≠ 23 ∧ c ≠ 25 ∧ c ≠ 34 ∧ c ≠ 38 ∧ c ≠ 42 ∧ c ≠ 46 ∧ (c < 48 ∨ 69 ≤ c)) → m1.2.2 c = m0.2.2 c := fun c h1 h2 => hn.2 c (Kc_sm b6 hAe h78 h1 h2)
  have enk : ∀ c v, m0.2.2 c = some v → (∀ z, v ≠ .inl (6, z)) → c ≠ e0 := fun c v hc hz ec => by
    subst ec
    rw [al2] at hc
    cases hc
    exact hz _ rfl
  refine ⟨⟨?_, trivial, ?_⟩, b2, b3, fun k hk => ?_, hC, hR, fun k hk τ hτ => Tok_fr (b7 k hk τ hτ) (fun b hb a q => ⟨a, hB.1 b a q⟩) (fun b hb => hD b (hold k hk τ hτ b hb))⟩
  · rw [sm 14 (by omega) (by omega)]; exact b1.1
  · rw [sm 17 (by omega) (by omega)]; exact b1.2.2
  · obtain ⟨⟨l1, _, ⟨md', Ef', q1, q2, q3, q4⟩, l4⟩, ⟨r1, r2⟩, l5, l6⟩ := b4 k hk
    have hm := hn.1
    have hk4 : k = 0 ∨ k = 1 ∨ k = 2 ∨ k = 3 := by omega
    have he : m1.2.2 (E k) = m0.2.2 (E k) := by
      by_cases c : C k = 0
      · rw [r1.1 c]
        exact sm 2 (by omega) (by omega)
      · exact hn.2 _ (Kc_bg b6 (r1.2 c) q2 (fun z q => by cases q) (hE k hk c))
    refine ⟨⟨?_, trivial, ⟨md', Ef', ?_, by rw [he]; exact q2, q3, q4⟩, fun j hj => ?_⟩, ⟨⟨r1.1, fun c => ?_⟩, fun τ hτ => ?_⟩, l5, l6⟩
    · rw [sm _ (by omega) (by omega)]; exact l1
    · rw [sm _ (by omega) (by omega)]; exact q1
    · have t := l4 j hj
      have hr := r2 _ (trD_mem hj)
      obtain ⟨f, f1, f2⟩ := t.2
      refine TbX_fr t ?_ ?_
      · exact hn.2 _ (Kc_bg b6 ⟨hr.1, hr.2.1⟩ t.1 (fun z q => by cases q) (enk _ _ t.1 (fun z q => by cases q)))
      · exact hn.2 _ (Kc_bg b6 ⟨hr.2.2.1, hr.2.2.2⟩ f1 (fun z q => by cases q) (enk _ _ f1 (fun z q => by cases q)))
    · have := r1.2 c
      omega
    · have := r2 τ hτ
      omega
end BSNF
theorem ubs_len {B : Nat → Option Nat} {D : Nat → Nat → Int64} {G : Nat → Nat → Int64} : ∀ (l : List TG), (∀ τ ∈ l, Tok B D G τ) → (ubs l).length ≤ (lms l).flatten.length
  | [], _ => Nat.le_refl _
  | τ :: l, h => by
    obtain ⟨⟨w1, w2, -⟩, t2, -⟩ := h τ List.mem_cons_self
    have := ubs_len l (fun τ hτ => h τ (List.mem_cons_of_mem _ hτ))
    have e1 : ubs (τ :: l) = τ.1.2.2.1 ++ ubs l := rfl
    have e2 : (lms (τ :: l)).flatten = τ.2 ++ (lms l).flatten := rfl
    rw [e1, e2, List.length_append, List.length_append]
    omega
section WEND
variable {mem : j_M} {G : Nat → Nat → Int64} {old cur bs : List Nat} {e cap : Nat} {fs : List TG} {B : Nat → Option Nat} {Wn T U : Nat → Int32} {D : Nat → Nat → Int64}
/-- the last table is done, if there is one -/
theorem w_end (d : Nat) (h : Wst mem G old e cap fs cur bs B Wn T U D) (hk : cur.length ≤ 400) (hc : cap < 2 ^ 20) :
    ∃ e' cap' mem' fs', j_ex tb (d + 7) m_Wr_seal [.ref 66] mem (.inl none) mem' ∧ Wst mem' G old e' cap' fs' [] [] B Wn T U D ∧ Wfr mem mem' old B e ∧ (e' = e ∨ mem.1 ≤ e') ∧ (∀ τ ∈ fs', τ ∈ fs ∨ mem.1 ≤ τ.1.1) ∧ lms fs' = (if cur = [] then lms fs else lms fs ++ [cur]) ∧ fs'.length ≤ fs.length + 1 ∧ cap ≤ cap' ∧ (cap' = cap ∨ cap' ≤ 2 * fs.length + 10) ∧ mem'.1 + cap + 2 * fs.length ≤ mem.1 + cap' + 2 * fs'.length ∧ mem'.2.1 + cap * cap + 60 * fs.length ≤ mem.2.1 + cap' * cap' + 60 * fs'.length := by
  cases cur with
  | nil =>
    have hw := h.1.1
    have hbs : bs = [] := by
      have := hw.2.1
      exact List.length_eq_zero_iff.mp (by simpa using this)
    subst hbs
    have k := x_Wr_seal0 (d + 6) hw
    have h66 : mem.2.2 66 = some (.inr (7, [.int 0, .long 0, .ref 9, .ref 67, .ref 68])) := hw.1
    rw [st_id h66] at k
    exact ⟨e, cap, mem, fs, k, h, ⟨Nat.le_refl _, fun _ _ _ _ _ _ _ _ _ _ => rfl⟩, Or.inl rfl, fun τ hτ => Or.inl hτ, by rw [if_pos rfl], by omega, Nat.le_refl _, Or.inl rfl, by omega, by omega⟩
  | cons c cs =>
    obtain ⟨e', cap', m1, τ, s1, s2, s3, s4, s5, s6, s7, s8, s9⟩ := w_seal d h ⟨by simp, hk⟩ hc
    refine ⟨e', cap', m1, _, s1, s2, s3, s4, fun τ' hτ' => ?_, by rw [if_neg (by simp), lms_app]; rfl, by simp, s6, s7, ?_, ?_⟩
    · rcases List.mem_append.mp hτ' with q | q
      · exact Or.inl q
      · have : τ' = (τ, c :: cs) := by simpa using q
        subst this
        exact Or.inr s5
    · simp only [List.length_append, List.length_cons, List.length_nil]
      omega
    · simp only [List.length_append, List.length_cons, List.length_nil]
      omega
end WEND
