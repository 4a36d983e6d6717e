/-! THE RUNS TOGETHER: search and count (own text) -/
/-- the cells of the system's versions; a version's words lie behind it -/
def vcell (v : Nat) : Prop := v = 15 ∨ v = 20 ∨ v = 22 ∨ v = 24 ∨ v = 26 ∨ v = 28 ∨ v = 30 ∨ v = 33 ∨ v = 37 ∨ v = 41 ∨ v = 45 ∨ v = 52 ∨ v = 54 ∨ v = 56 ∨ v = 58 ∨ v = 60 ∨ v = 62 ∨ v = 64
def Vs (mem : j_M) : Prop := ∀ v, vcell v → ∃ f, Ve mem v (v + 1) f
theorem Vs_set {mem : j_M} (h : Vs mem) {v : Nat} (hv : vcell v) (g : Nat → Int64) : Vs (j_set mem (v + 1) (vW g)) := by
  intro u hu
  obtain ⟨f, e1, e2⟩ := h u hu
  by_cases c : u = v
  · subst c
    exact ⟨g, by rw [st_ne _ _ (by omega)]; exact e1, st_same _ _ _⟩
  · exact ⟨f, by rw [st_ne _ _ (by unfold vcell at hu hv; omega)]; exact e1, by rw [st_ne _ _ (by omega)]; exact e2⟩
/-- the runs can be searched and counted -/
def Fb (mem : j_M) (cnt : Nat → Nat) (W : Nat → Nat → Nat → Int64) : Prop :=
  ∀ (d : Nat) (m' : j_M), m'.1 = mem.1 → (∀ c, rcell c → m'.2.2 c = mem.2.2 c) → Vs m' → ∀ r, r < 5 →
    j_ex tb (d + 1) (rC (rc r)) [.ref (ra r)] m' (.inl (some (.int (nI (cnt r))))) m' ∧
    ∀ vt ft, vcell vt → vt ≠ ra r + 1 → Ve m' vt (vt + 1) ft → ∃ k f'', k ≤ cnt r ∧ (∀ i, i < k → v_ord (W r i) < v_ord ft) ∧ (∀ i, k ≤ i → i < cnt r → v_ord ft ≤ v_ord (W r i)) ∧ j_ex tb (d + 8) m_Ru_firstNotBefore [.ref (ra r), .ref vt] m' (.inl (some (.int (nI k)))) (j_set m' (ra r + 2) (vW f''))
theorem Fb_fr {mem mem' : j_M} {cnt : Nat → Nat} {W : Nat → Nat → Nat → Int64} (h : Fb mem cnt W) (h1 : mem'.1 = mem.1) (h2 : ∀ c, rcell c → mem'.2.2 c = mem.2.2 c) : Fb mem' cnt W :=
  fun d m' e1 e2 => h d m' (e1.trans h1) (fun c hc => (e2 c hc).trans (h2 c hc))
theorem Fb_of {mem : j_M} {n : Nat} {R : Nat → Int64} {E C : Nat → Nat} {TS : Nat → List TR} {B : Nat → Option Nat} {Wn T U : Nat → Int32} {D : Nat → Nat → Int64} (hM : Mw mem n R) (hn : n ≤ 500) (hL : Lvs mem E C TS) (hC : Cp mem B Wn T U) (hR : Rw mem B D) (hW : ∀ k, k < 4 → ∀ τ ∈ TS k, Wt B τ)
    (hs : ∀ r, r < 5 → ∀ i j, i < j → j < rcnt n TS r → v_ord (rwd R D TS r i) ≤ v_ord (rwd R D TS r j)) : Fb mem (rcnt n TS) (rwd R D TS) := by
  intro d m' e1 q hV r hr
  have hC' : Cp m' B Wn T U := ⟨by rw [q _ (by unfold rcell; omega)]; exact hC.1, by rw [q _ (by unfold rcell; omega)]; exact hC.2.1, by rw [q _ (by unfold rcell; omega)]; exact hC.2.2.1, by rw [q _ (by unfold rcell; omega)]; exact hC.2.2.2.1, by rw [q _ (by unfold rcell; omega)]; exact hC.2.2.2.2⟩
  have hR' : Rw m' B D := Rw_fr hR (by omega) (fun c c1 _ => q c (by unfold rcell; omega))
  have hsr := hs r hr
  unfold rcnt at hsr ⊢
  unfold rwd at hsr ⊢
  unfold rC ra rc
  by_cases c : r = 0
  · simp only [if_pos c] at hsr ⊢
    obtain ⟨fm, hfm⟩ := hV 15 (by unfold vcell; omega)
    have hM' : Mm m' n R fm := ⟨by rw [q _ (by unfold rcell; omega)]; exact hM.1, hfm, by rw [q _ (by unfold rcell; omega)]; exact hM.2.2⟩
    refine ⟨x_Me_count d hM', fun vt ft h1 h2 h3 => ?_⟩
    exact x_Me_fnb d hM' hn h3 (by omega) (by unfold vcell at h1; omega) hsr
  · simp only [if_neg c] at hsr ⊢
    obtain ⟨l1, l2, l3, l4⟩ := hL (r - 1) (by omega)
    have hk : r - 1 = 0 ∨ r - 1 = 1 ∨ r - 1 = 2 ∨ r - 1 = 3 := by omega
    have l1' : Lw m' (32 + 4 * (r - 1)) (E (r - 1)) (C (r - 1)) (TS (r - 1)) := Lw_fr l1 l2 (q _ (by unfold rcell; omega)) (q _ (by unfold rcell; omega)) (q _ (by unfold rcell; omega)) (fun c c1 _ => q c (by unfold rcell; omega))
    have l2' : Lr m' (E (r - 1)) (C (r - 1)) (TS (r - 1)) := by
      refine ⟨⟨l2.1.1, fun z => ?_⟩, fun τ hτ => ?_⟩
      · have := l2.1.2 z; omega
      · have := l2.2 τ hτ; omega
    obtain ⟨fm, hfm⟩ := hV (28 + 4 * r + 1) (by unfold vcell; omega)
    rw [show 32 + 4 * (r - 1) = 28 + 4 * r by omega] at l1'
    have hv' : Lv m' (28 + 4 * r) (E (r - 1)) (C (r - 1)) (TS (r - 1)) fm := ⟨l1'.1, hfm, l1'.2.2.1, l1'.2.2.2⟩
    refine ⟨x_Lv_count d hv', fun vt ft h1 h2 h3 => ?_⟩
    exact x_Lv_fnb d hv' l2' (by omega) hC' hR' (hW (r - 1) (by omega)) l3 l4 h3 (by omega) (by unfold vcell at h1; omega) hsr
/-- the system's own object -/
def LT (mem : j_M) (sh lv : Int32) : Prop := mem.2.2 4 = some (.inr (0, [.int sh, .int lv, .ref 5, .ref 7, .ref 9, .ref 14, .ref 18, .ref 19, .ref 48, .ref 66, .ref 20, .ref 22, .ref 24, .ref 26, .ref 28, .ref 30]))
