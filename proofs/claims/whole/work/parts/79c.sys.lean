/-! THE SYSTEM AS A WHOLE, AND A BATCH'S LAST STEPS (own text) -/
def LvA (mem : j_M) : Prop := ∃ Hl, mem.2.2 18 = some (.inl (5, 4, .inr (.inr (.inr (.inr Hl))))) ∧ ∀ k, k < 4 → Hl k = some (32 + 4 * k)
def Wz (mem : j_M) : Prop := ∃ hn un a s fv fn W, Wq mem hn un a s fv fn W
/-- the room used: rows, lists, J batches, Q throws -/
def Rm (mem : j_M) (B : Nat → Option Nat) (C : Nat → Nat) (cap J Q : Nat) : Prop := mem.1 ≤ 78 + nB B + (C 0 + C 1 + C 2 + C 3) + cap + 18 * J + Q ∧ mem.2.1 ≤ 60000 + 48 * nB B + (C 0 * C 0 + C 1 * C 1 + C 2 * C 2 + C 3 * C 3) + cap * cap + 540 * J + 6 * Q
def Sb (mem : j_M) (P : Nat) (s : Nat → Option Nat) (sh lv : Int32) : Prop := LT mem sh lv ∧ Vw mem P s ∧ Rns mem ∧ LvA mem ∧ Vs mem ∧ Wz mem
/-- the system; the writer's own tables stand as a fifth list -/
def Sx (mem : j_M) (G : Nat → Nat → Int64) (P : Nat) (s : Nat → Option Nat) (sh lv : Int32) (mm : List Nat) (LV : Nat → List TG) (J Q : Nat) : Prop :=
  ∃ R E C B Wn T U D e cap, Sb mem P s sh lv ∧ Bs mem G mm R E C LV B Wn T U D ∧ (Wp mem 0 0 [] ∧ Al mem 67 e cap ((lfs (LV 4)).map (fun τ => τ.1)) ∧ Ale mem e cap) ∧ Ed E C e cap ∧ (Dj fC LV ∧ Dj fB LV ∧ Tk LV T) ∧ (Fst mem (LV 4) ∧ ∀ τ ∈ LV 4, Tok B D G τ) ∧ 78 ≤ mem.1 ∧ ((∀ k, k < 4 → C k ≤ 600) ∧ cap ≤ 100) ∧ Rm mem B C cap J Q
def Sy (mem : j_M) (G : Nat → Nat → Int64) (P : Nat) (s : Nat → Option Nat) (sh lv : Int32) (mm : List Nat) (LV : Nat → List TG) (J Q : Nat) : Prop :=
  ∃ R E C B Wn T U D e cap, Sb mem P s sh lv ∧ Bs mem G mm R E C LV B Wn T U D ∧ (Wp mem 0 0 [] ∧ (∃ xs, Al mem 67 e cap xs) ∧ Ale mem e cap) ∧ Ed E C e cap ∧ (Dj fC LV ∧ Dj fB LV ∧ Tk LV T ∧ LV 4 = []) ∧ 78 ≤ mem.1 ∧ ((∀ k, k < 4 → C k ≤ 600) ∧ cap ≤ 100) ∧ Rm mem B C cap J Q
/-- what is none of the system's: the script, the tape, the reference -/
def Ox (mem mem' : j_M) : Prop := ∀ c, c < 4 ∨ c = 5 ∨ c = 6 ∨ c = 30 ∨ c = 31 ∨ (69 ≤ c ∧ c < 78) → mem'.2.2 c = mem.2.2 c
theorem Ox_refl (mem : j_M) : Ox mem mem := fun _ _ => rfl
theorem Ox_trans {m1 m2 m3 : j_M} (h : Ox m1 m2) (h' : Ox m2 m3) : Ox m1 m3 := fun c hc => (h' c hc).trans (h c hc)
theorem Ox_sf {mem mem' : j_M} (h : Sf mem mem') : Ox mem mem' := fun c hc => h.2.2 c (by unfold scell; omega)
theorem Ox_ot {mem mem' : j_M} {k : Nat} (h : Ot mem mem' k) (hk : k < 4) : Ox mem mem' := fun c hc => h c (by omega) (by omega) (by omega) (by omega)
theorem Wz_fr {mem mem' : j_M} (h : Wz mem) (h1 : ∀ c, 48 ≤ c → c < 66 → mem'.2.2 c = mem.2.2 c) (h2 : mem'.2.2 19 = mem.2.2 19) : Wz mem' := by
  obtain ⟨hn, un, a, s, fv, fn, W, q⟩ := h
  exact ⟨hn, un, a, s, fv, fn, W, Wq_fr q h1 h2⟩
section SYS
variable {mem mem' : j_M} {G : Nat → Nat → Int64} {P : Nat} {s : Nat → Option Nat} {sh lv : Int32} {mm : List Nat} {LV : Nat → List TG} {J Q k a b : Nat}
theorem Sb_ot (h : Sb mem P s sh lv) (ho : Ot mem mem' k) (hk : k < 4) (hV : Vs mem') : Sb mem' P s sh lv := by
  obtain ⟨h1, h2, ⟨Hr, r1, r2⟩, ⟨Hl, l1, l2⟩, h5, h6⟩ := h
  exact ⟨(ho 4 (by omega) (by omega) (by omega) (by omega)).trans h1, ⟨(ho 7 (by omega) (by omega) (by omega) (by omega)).trans h2.1, (ho 8 (by omega) (by omega) (by omega) (by omega)).trans h2.2⟩, ⟨Hr, (ho 19 (by omega) (by omega) (by omega) (by omega)).trans r1, r2⟩, ⟨Hl, (ho 18 (by omega) (by omega) (by omega) (by omega)).trans l1, l2⟩, hV, Wz_fr h6 (fun c c1 c2 => ho c (by omega) (by omega) (by omega) (by omega)) (ho 19 (by omega) (by omega) (by omega) (by omega))⟩
theorem Wp_ot {n : Nat} {sm : Int64} {bs : List Nat} (h : Wp mem n sm bs) (ho : Ot mem mem' k) (hk : k < 4) : Wp mem' n sm bs := by
  obtain ⟨p1, p2, bf, p3, p4⟩ := h
  exact ⟨(ho 66 (by omega) (by omega) (by omega) (by omega)).trans p1, p2, bf, (ho 68 (by omega) (by omega) (by omega) (by omega)).trans p3, p4⟩
theorem sx_rem (d : Nat) (h : Sx mem G P s sh lv mm LV J Q) (hk : k < 4) (hab : a ≤ b) (hbl : b ≤ (LV k).length) :
    ∃ mem', j_ex tb (d + 5) m_Lv_remove [.ref (32 + 4 * k), .int (nI a), .int (nI b)] mem (.inl none) mem' ∧ Sx mem' G P s sh lv mm (va_up LV k ((LV k).take a ++ (LV k).drop b)) J Q ∧ Ox mem mem' := by
  obtain ⟨R, E, C, B, Wn, T, U, D, e, cap, h1, h2, ⟨h3, h4, h5⟩, h6, ⟨h7, h8, h9⟩, ⟨h10, h11⟩, h12, h13, h14⟩ := h
  obtain ⟨mem', r1, r2, r3, r4, r5, r6, r7, r8, r9⟩ := op_rem d h2 h1.2.2.2.2.1 hk h12 h7 h10 h6 h4 h5 hab hbl
  have e4 : va_up LV k ((LV k).take a ++ (LV k).drop b) 4 = LV 4 := va_up_ne _ _ (by omega)
  refine ⟨mem', r1, ⟨R, E, C, B, Wn, _, U, D, e, cap, Sb_ot h1 r9 hk r3, r2, ⟨Wp_ot h3 r9 hk, by rw [e4]; exact r5, r6⟩, h6, ⟨Dj_rem h7 hab, Dj_rem h8 hab, Tk_rem h9 h8 (by omega) hab⟩, ⟨by rw [e4]; exact r4, by rw [e4]; exact h11⟩, by omega, h13, ?_⟩, Ox_ot r9 hk⟩
  unfold Rm at h14 ⊢
  rw [r7, r8]
  exact h14
theorem sum4 (C : Nat → Nat) {k : Nat} (hk : k < 4) (x : Nat) : va_up C k x 0 + va_up C k x 1 + va_up C k x 2 + va_up C k x 3 + C k = C 0 + C 1 + C 2 + C 3 + x := by
  have : k = 0 ∨ k = 1 ∨ k = 2 ∨ k = 3 := by omega
  unfold va_up
  rcases this with rfl | rfl | rfl | rfl <;> simp <;> omega
theorem sqr4 (C : Nat → Nat) {k : Nat} (hk : k < 4) (x : Nat) : va_up C k x 0 * va_up C k x 0 + va_up C k x 1 * va_up C k x 1 + va_up C k x 2 * va_up C k x 2 + va_up C k x 3 * va_up C k x 3 + C k * C k = C 0 * C 0 + C 1 * C 1 + C 2 * C 2 + C 3 * C 3 + x * x := by
  have : k = 0 ∨ k = 1 ∨ k = 2 ∨ k = 3 := by omega
  unfold va_up
  rcases this with rfl | rfl | rfl | rfl <;> simp <;> omega
theorem sx_ins (d : Nat) (h : Sx mem G P s sh lv mm LV J Q) (hk : k < 4) (hl : (LV k).length + (LV 4).length ≤ 290) (hst : (lms (LV k)).flatten.length + (lms (LV 4)).flatten.length < 2 ^ 20) (ha : a ≤ (LV k).length) :
    ∃ mem', j_ex tb (d + 6) m_Lv_insert [.ref (32 + 4 * k), .int (nI a), .ref 67] mem (.inl none) mem' ∧ Sy mem' G P s sh lv mm (va_up (va_up LV k ((LV k).take a ++ LV 4 ++ (LV k).drop a)) 4 []) J Q ∧ Ox mem mem' := by
  obtain ⟨R, E, C, B, Wn, T, U, D, e, cap, h1, h2, ⟨h3, h4, h5⟩, h6, ⟨h7, h8, h9⟩, ⟨h10, h11⟩, h12, ⟨h13, h13'⟩, h14⟩ := h
  have hCk := h13 k hk
  obtain ⟨e', cap', mem', r1, r2, r3, r4, r5, r6, r7, r8, r9⟩ := op_ins d h2 h1.2.2.2.2.1 hk h12 h7 h10 h11 h6 h4 h5 (by omega) (by omega) (by omega) hst ha
  have hg := r7
  obtain ⟨g1, g2, g3, g4, g5⟩ := r7
  refine ⟨mem', r1, ⟨R, _, _, B, Wn, T, U, D, e, cap, Sb_ot h1 r9 hk r3, r2, ⟨Wp_ot h3 r9 hk, r4, r5⟩, r6, ⟨Dj_ins h7 hk, Dj_ins h8 hk, Tk_ins h9 hk, va_up_self _ _ _⟩, by omega, ⟨fun k' hk' => ?_, h13'⟩, ?_⟩, Ox_ot r9 hk⟩
  · by_cases c : k' = k
    · subst c
      rw [va_up_self]
      omega
    · rw [va_up_ne _ _ c]
      exact h13 k' hk'
  · unfold Rm at h14 ⊢
    have s1 := sum4 C hk cap'
    have s2 := sqr4 C hk cap'
    omega
theorem Sy_sf (h : Sy mem G P s sh lv mm LV J Q) (hf : Sf mem mem') (hV : Vs mem') (hW : Wz mem') : Sy mem' G P s sh lv mm LV J Q := by
  obtain ⟨R, E, C, B, Wn, T, U, D, e, cap, ⟨a1, a2, ⟨Hr, r1, r2⟩, ⟨Hl, l1, l2⟩, a5, a6⟩, h2, ⟨⟨p1, p2, bf, p3, p4⟩, ⟨xs, md, Ef, q1, q2, q3, q4⟩, h5⟩, h6, h7, h12, h13, h14⟩ := h
  have f := hf.2.2
  have e2 : e = 2 ∨ 78 ≤ e := by
    by_cases c : cap = 0
    · exact Or.inl (h5.1 c)
    · exact Or.inr (h5.2 c).1
  refine ⟨R, E, C, B, Wn, T, U, D, e, cap, ⟨(f 4 (by unfold scell; omega)).trans a1, ⟨(f 7 (by unfold scell; omega)).trans a2.1, (f 8 (by unfold scell; omega)).trans a2.2⟩, ⟨Hr, (f 19 (by unfold scell; omega)).trans r1, r2⟩, ⟨Hl, (f 18 (by unfold scell; omega)).trans l1, l2⟩, hV, hW⟩, Bs_sf h2 hf, ⟨⟨(f 66 (by unfold scell; omega)).trans p1, p2, bf, (f 68 (by unfold scell; omega)).trans p3, p4⟩, ⟨xs, md, Ef, (f 67 (by unfold scell; omega)).trans q1, (f e (by unfold scell; omega)).trans q2, q3, q4⟩, ⟨h5.1, by rw [hf.1]; exact h5.2⟩⟩, h6, h7, by rw [hf.1]; exact h12, h13, ?_⟩
  unfold Rm at h14 ⊢
  rw [hf.1, hf.2.1]
  exact h14
/-- the pure side: the history, the runs, tables apart -/
def Pu (G : Nat → Nat → Int64) (P : Nat) (mm : List Nat) (LV : Nat → List TG) : Prop := Hg G ∧ Rg G (rms mm LV) ∧ (∀ r, r < 5 → ∀ t ∈ rms mm LV r, t ≤ P) ∧ ∀ k, k < 4 → (lms (LV k)).Pairwise (apt (gK G)) ∧ ∀ q ∈ lms (LV k), q ≠ []
theorem Pu_tot (h : Pu G P mm LV) : mm.length + (lms (LV 0)).flatten.length + (lms (LV 1)).flatten.length + (lms (LV 2)).flatten.length + (lms (LV 3)).flatten.length ≤ P :=
  tot_le (ms := rms mm LV) h.2.1.2.2 h.2.1.1 (fun r hr t ht => ⟨(h.2.1.2.1 r hr t ht).1, h.2.2.1 r hr t ht⟩)
theorem fl_len (q : List (List Nat)) (h : ∀ z ∈ q, z ≠ []) : q.length ≤ q.flatten.length := by
  induction q with
  | nil => exact Nat.le_refl _
  | cons z q ih =>
    have h1 := ih (fun w hw => h w (List.mem_cons_of_mem _ hw))
    have h2 := List.length_pos_iff.mpr (h z List.mem_cons_self)
    rw [List.flatten_cons, List.length_append, List.length_cons]
    omega
def olds (LV : Nat → List TG) : List Nat := ubs (LV 0) ++ (ubs (LV 1) ++ (ubs (LV 2) ++ ubs (LV 3)))
theorem mem_olds {x : Nat} : x ∈ olds LV ↔ ∃ k, k < 4 ∧ x ∈ ubs (LV k) := by
  unfold olds
  simp only [List.mem_append]
  constructor
  · rintro (q | q | q | q)
    · exact ⟨0, by omega, q⟩
    · exact ⟨1, by omega, q⟩
    · exact ⟨2, by omega, q⟩
    · exact ⟨3, by omega, q⟩
  · rintro ⟨k, hk, q⟩
    have : k = 0 ∨ k = 1 ∨ k = 2 ∨ k = 3 := by omega
    rcases this with rfl | rfl | rfl | rfl
    · exact Or.inl q
    · exact Or.inr (Or.inl q)
    · exact Or.inr (Or.inr (Or.inl q))
    · exact Or.inr (Or.inr (Or.inr q))
theorem nd_olds (h : Dj fB LV) : (olds LV).Nodup := by
  have dj : ∀ k k', k < 5 → k' < 5 → k ≠ k' → ∀ x ∈ ubs (LV k), ∀ y ∈ ubs (LV k'), x ≠ y := fun k k' h1 h2 hne x hx y hy e => h.2 k k' h1 h2 hne x hx (by rw [e]; exact hy)
  unfold olds
  refine List.nodup_append.mpr ⟨h.1 0 (by omega), List.nodup_append.mpr ⟨h.1 1 (by omega), List.nodup_append.mpr ⟨h.1 2 (by omega), h.1 3 (by omega), dj 2 3 (by omega) (by omega) (by omega)⟩, ?_⟩, ?_⟩
  · intro x hx y hy
    rcases List.mem_append.mp hy with q | q
    · exact dj 1 2 (by omega) (by omega) (by omega) x hx y q
    · exact dj 1 3 (by omega) (by omega) (by omega) x hx y q
  · intro x hx y hy
    rcases List.mem_append.mp hy with q | q
    · exact dj 0 1 (by omega) (by omega) (by omega) x hx y q
    · rcases List.mem_append.mp q with q | q
      · exact dj 0 2 (by omega) (by omega) (by omega) x hx y q
      · exact dj 0 3 (by omega) (by omega) (by omega) x hx y q
/-- a batch is written: what the walk gives goes into the writer's tables -/
theorem sy_need (d : Nat) {l : Nat} {hn un : Int32} {aa sp : Nat → Nat} {fv fn : Nat → Int64} {ml : List Nat} (h : Sy mem G P s sh lv mm LV J Q) (hp : Pu G P mm LV) (hP : P ≤ 256) (hs : ∀ i m, s i = some m → m ≤ 500) (hl : l < 4) (hcov : Cov (gK G) (rms mm LV) l ml)
    (hwq : Wq mem hn un aa sp fv fn (gW G (rms mm LV))) (hbd : ∀ r, r < 5 → aa r ≤ sp r ∧ sp r ≤ (rms mm LV r).length) (hrl : Rl (gK G) (rms mm LV) aa sp ml) :
    ∃ mo fs kp, j_ex tb (d + 10) m_LT_writeNeeded [.ref 4, .int (nI l)] mem (.inl none) mo ∧ Sx mo G P s sh lv mm (va_up LV 4 fs) (J + 1) Q ∧ Ox mem mo ∧ Kpt (gK G) (gT G) (vis P s) (mem5 (rms mm LV)) (dpr (rms mm LV) l) ml kp ∧ So (gK G) kp ∧ (lms fs).flatten = kp ∧ (lms fs).Pairwise (apt (gK G)) ∧ (∀ q ∈ lms fs, q ≠ []) ∧ fs.length ≤ 9 := by
  obtain ⟨R, E, C, B, Wn, T, U, D, e, cap, ⟨a1, a2, a3, a4, a5, a6⟩, h2, ⟨h3, ⟨xs, h4⟩, h5⟩, h6, ⟨h7, h8, h9, h10⟩, h12, ⟨h13, h13'⟩, h14⟩ := h
  have htot := Pu_tot hp
  have hml : ml.length ≤ 256 := by
    have hnd := So_nd hrl.1
    have := pgr (a := 1) (n := P) hnd (fun x hx => by
      obtain ⟨r, q1, q2⟩ := hcov.1 x hx
      have e1 := hp.2.1.2.1 r (by omega) x q2
      have e2 := hp.2.2.1 r (by omega) x q2
      omega)
    omega
  have hold : (olds LV).length ≤ 256 := by
    have hT := h2.2.2.2.2.2.2
    have u0 := ubs_len (LV 0) (hT 0 (by omega))
    have u1 := ubs_len (LV 1) (hT 1 (by omega))
    have u2 := ubs_len (LV 2) (hT 2 (by omega))
    have u3 := ubs_len (LV 3) (hT 3 (by omega))
    unfold olds
    simp only [List.length_append]
    omega
  have hE : ∀ k, k < 4 → C k ≠ 0 → E k ≠ e := fun k hk c => by
    by_cases cc : cap = 0
    · have e1 := h5.1 cc
      have e2 := ((h2.2.2.2.1 k hk).2.1.1.2 c).1
      omega
    · exact h6.1 k hk c cc
  obtain ⟨mo, kp, un', fv', e', cap', fs, B', Wn', T', D', z1, z2, z3, z4, z5, z6, z7, z8, z9⟩ := x_LT_needed d (old := olds LV) (P := P) (s := s) (ml := ml) hp.1 hp.2.1 h2 h3 h4 h5 hE h12 (fun k hk τ hτ b hb => mem_olds.mpr ⟨k, hk, mem_ubs hτ hb⟩) a5
    ⟨nd_olds h8, fun b hb => by
      obtain ⟨k, hk, q⟩ := mem_olds.mp hb
      exact h9.1 k (by omega) b q, fun b hb hn => h9.2 b hb (fun k hk q => by
      by_cases c : k < 4
      · exact hn (mem_olds.mpr ⟨k, c, q⟩)
      · have : k = 4 := by omega
        rw [this, h10] at q
        cases q)⟩ a1 a2 (by omega) hs a3 hl hcov ⟨by omega, by omega⟩ (by omega) hwq hbd hrl
  obtain ⟨q1, q2, q3, q4, q5, q6, q7, q8, q9, q10, q11⟩ := z9
  have hkl : kp.length ≤ 256 := Nat.le_trans (pg kp ml (So_nd z3) z2.1) hml
  have hfl : fs.length ≤ 9 := by omega
  have K4 : ∀ c, c < 78 → (c ≠ 10 ∧ c ≠ 11 ∧ c ≠ 12 ∧ c ≠ 16 ∧ c ≠ 23 ∧ c ≠ 25 ∧ c ≠ 34 ∧ c ≠ 38 ∧ c ≠ 42 ∧ c ≠ 46 ∧ (c < 48 ∨ 69 ≤ c)) → mo.2.2 c = mem.2.2 c := fun c g1 g2 => q3.2 c (Kc_sm h2.2.2.2.2.2.1 h5 h12 g1 g2)
  have hBs : Bs mo G mm R E C LV B' Wn' T' U D' := Bs_nf h2 h4 h5 hE h12 q3 q2.1.2.1 q2.1.2.2 q4 (fun k hk τ hτ b hb => mem_olds.mpr ⟨k, hk, mem_ubs hτ hb⟩) q5
  have hBs' : Bs mo G mm R E C (va_up LV 4 fs) B' Wn' T' U D' := by
    obtain ⟨g1, g2, g3, g4, g5, g6, g7⟩ := hBs
    have e1 : ∀ k, k < 4 → va_up LV 4 fs k = LV k := fun k hk => va_up_ne _ _ (by omega)
    exact ⟨g1, g2, g3, fun k hk => by
      show Lw mo (32 + 4 * k) (E k) (C k) (lfs (va_up LV 4 fs k)) ∧ Lr mo (E k) (C k) (lfs (va_up LV 4 fs k)) ∧ C k < 2 ^ 20 ∧ sta (lfs (va_up LV 4 fs k)) (lfs (va_up LV 4 fs k)).length < 2 ^ 20
      rw [e1 k hk]
      exact g4 k hk, g5, g6, fun k hk => by rw [e1 k hk]; exact g7 k hk⟩
  obtain ⟨⟨w1, w2, w3⟩, ⟨w4, w5⟩, w6, w7, w8, ⟨w9, w10, w11⟩, w12⟩ := q2
  have e44 : va_up LV 4 fs 4 = fs := va_up_self _ _ _
  have eo : ∀ k, k ≠ 4 → va_up LV 4 fs k = LV k := fun k hk => va_up_ne _ _ hk
  have nd9 := w9
  rw [List.append_nil] at nd9 w10 w11
  have nda := List.nodup_append.mp nd9
  have hmo := q3.1
  refine ⟨mo, fs, kp, z1, ⟨R, E, C, B', Wn', T', U, D', e', cap', ⟨(K4 4 (by omega) (by omega)).trans a1, ⟨(K4 7 (by omega) (by omega)).trans a2.1, (K4 8 (by omega) (by omega)).trans a2.2⟩, ?_, ?_, q1, ?_⟩, hBs', ⟨w1, by rw [e44]; exact w4, w5⟩, ?_, ⟨?_, ?_, ?_⟩, ⟨?_, ?_⟩, w12, ⟨h13, by omega⟩, ?_⟩, fun c hc => K4 c (by omega) (by omega), z2, z3, z4, z5, z6, hfl⟩
  · obtain ⟨Hr, r1, r2⟩ := a3
    exact ⟨Hr, (K4 19 (by omega) (by omega)).trans r1, r2⟩
  · obtain ⟨Hl, r1, r2⟩ := a4
    exact ⟨Hl, (K4 18 (by omega) (by omega)).trans r1, r2⟩
  · obtain ⟨hn', a', fn', p1, -⟩ := z8
    exact ⟨_, _, _, _, _, _, _, p1⟩
  · refine ⟨fun k hk c1 c2 => ?_, h6.2⟩
    rcases q6 with g | g
    · rw [g]
      exact hE k hk c1
    · have := ((h2.2.2.2.1 k hk).2.1.1.2 c1).2
      omega
  · -- cells
    refine ⟨fun k hk => ?_, fun k k' hk hk' hne x hx hx' => ?_⟩
    · by_cases c : k = 4
      · subst c
        rw [e44, fC_map]
        exact w7
      · rw [eo k c]
        exact h7.1 k hk
    · have lo : ∀ k, k < 4 → ∀ x ∈ (LV k).flatMap fC, x < mem.1 := fun k hk x hx => by
        rw [fC_map] at hx
        obtain ⟨τ, t1, rfl⟩ := List.mem_map.mp hx
        exact ((h2.2.2.2.1 k hk).2.1.2 τ t1).2.1
      have hi : ∀ x ∈ fs.flatMap fC, mem.1 ≤ x := fun x hx => by
        obtain ⟨τ, t1, t2⟩ := List.mem_flatMap.mp hx
        have : x = τ.1.1 := by simpa [fC] using t2
        rw [this]
        exact q7 τ t1
      by_cases c : k = 4
      · subst c
        rw [e44] at hx
        rw [eo k' (by omega)] at hx'
        have g1 := hi x hx
        have g2 := lo k' (by omega) x hx'
        omega
      · rw [eo k c] at hx
        by_cases c' : k' = 4
        · subst c'
          rw [e44] at hx'
          have g1 := hi x hx'
          have g2 := lo k (by omega) x hx
          omega
        · rw [eo k' c'] at hx'
          exact h7.2 k k' hk hk' hne x hx hx'
  · -- blocks
    refine ⟨fun k hk => ?_, fun k k' hk hk' hne x hx hx' => ?_⟩
    · by_cases c : k = 4
      · subst c
        rw [e44]
        exact nda.2.1
      · rw [eo k c]
        exact h8.1 k hk
    · by_cases c : k = 4
      · subst c
        rw [e44] at hx
        rw [eo k' (by omega)] at hx'
        exact nda.2.2 x (mem_olds.mpr ⟨k', by omega, hx'⟩) x hx rfl
      · rw [eo k c] at hx
        by_cases c' : k' = 4
        · subst c'
          rw [e44] at hx'
          exact nda.2.2 x (mem_olds.mpr ⟨k, by omega, hx⟩) x hx' rfl
        · rw [eo k' c'] at hx'
          exact h8.2 k k' hk hk' hne x hx hx'
  · refine ⟨fun k hk x hx => ?_, fun x hx hn => w11 x hx (fun q => ?_)⟩
    · by_cases c : k = 4
      · subst c
        rw [e44] at hx
        exact w10 x (List.mem_append_right _ hx)
      · rw [eo k c] at hx
        exact w10 x (List.mem_append_left _ (mem_olds.mpr ⟨k, by omega, hx⟩))
    · rcases List.mem_append.mp q with g | g
      · obtain ⟨k, hk, g⟩ := mem_olds.mp g
        have := hn k (by omega)
        rw [eo k (by omega)] at this
        exact this g
      · have := hn 4 (by omega)
        rw [e44] at this
        exact this g
  · rw [e44]
    exact fun τ hτ => ⟨(w6 τ hτ).1, (w6 τ hτ).2.2⟩
  · rw [e44]
    exact fun τ hτ => (w6 τ hτ).2.1
  · unfold Rm at h14 ⊢
    omega
end SYS
