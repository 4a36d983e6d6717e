/-! SEARCHES AHEAD OF A BATCH (own text) -/
/-- cells that searches and walks may change -/
def scell (c : Nat) : Prop := c = 16 ∨ c = 21 ∨ c = 23 ∨ c = 25 ∨ c = 27 ∨ c = 29 ∨ c = 34 ∨ c = 38 ∨ c = 42 ∨ c = 46 ∨ (48 ≤ c ∧ c < 66)
def Sf (mem mem' : j_M) : Prop := mem'.1 = mem.1 ∧ mem'.2.1 = mem.2.1 ∧ ∀ c, ¬ scell c → mem'.2.2 c = mem.2.2 c
theorem Sf_refl (mem : j_M) : Sf mem mem := ⟨rfl, rfl, fun _ _ => rfl⟩
theorem Sf_trans {m1 m2 m3 : j_M} (h : Sf m1 m2) (h' : Sf m2 m3) : Sf m1 m3 := ⟨h'.1.trans h.1, h'.2.1.trans h.2.1, fun c hc => (h'.2.2 c hc).trans (h.2.2 c hc)⟩
theorem Sf_set (mem : j_M) {a : Nat} (x : j_C) (h : scell a) : Sf mem (j_set mem a x) := ⟨rfl, rfl, fun c hc => st_ne _ _ (fun q => hc (by rw [q]; exact h))⟩
theorem Sf_wf {mem mem' : j_M} (h : Wf mem mem') : Sf mem mem' := ⟨h.1, h.2.1, fun c hc => h.2.2 c (by unfold scell at hc; omega)⟩
theorem Sf_hf {mem mem' : j_M} (h : Hf mem mem') : Sf mem mem' := ⟨h.1, h.2.1, fun c hc => by unfold scell at hc; exact h.2.2 c (by omega) (by omega) (by omega) (by omega) (by omega) (by omega) (by omega)⟩
theorem Sf_rc {mem mem' : j_M} (h : Sf mem mem') : ∀ c, rcell c → mem'.2.2 c = mem.2.2 c := fun c hc => h.2.2 c (by unfold rcell at hc; unfold scell; omega)
section SEARCH
variable {mem mem' : j_M} {G : Nat → Nat → Int64} {mm : List Nat} {R : Nat → Int64} {E C : Nat → Nat} {LV : Nat → List TG} {B : Nat → Option Nat} {Wn T U : Nat → Int32} {D : Nat → Nat → Int64} {k : Nat}
theorem Bs_sf (hb : Bs mem G mm R E C LV B Wn T U D) (h : Sf mem mem') : Bs mem' G mm R E C LV B Wn T U D := by
  obtain ⟨b1, b2, b3, b4, b5, b6, b7⟩ := hb
  have q := Sf_rc h
  have h1 := h.1
  refine ⟨⟨by rw [q _ (by unfold rcell; omega)]; exact b1.1, trivial, by rw [q _ (by unfold rcell; omega)]; exact b1.2.2⟩, b2, b3, fun k hk => ?_, ⟨by rw [q _ (by unfold rcell; omega)]; exact b5.1, by rw [q _ (by unfold rcell; omega)]; exact b5.2.1, by rw [q _ (by unfold rcell; omega)]; exact b5.2.2.1, by rw [q _ (by unfold rcell; omega)]; exact b5.2.2.2.1, by rw [q _ (by unfold rcell; omega)]; exact b5.2.2.2.2⟩, Rw_fr b6 (by omega) (fun c c1 _ => q c (by unfold rcell; omega)), b7⟩
  obtain ⟨l1, l2, l3, l4⟩ := b4 k hk
  have hk4 : k = 0 ∨ k = 1 ∨ k = 2 ∨ k = 3 := by omega
  exact ⟨Lw_fr l1 l2 (q _ (by unfold rcell; omega)) (q _ (by unfold rcell; omega)) (q _ (by unfold rcell; omega)) (fun c c1 _ => q c (by unfold rcell; omega)), Lr_le l2 (by omega), l3, l4⟩
theorem lv_sorted (hG : Hg G) (hg : Rg G (rms mm LV)) (hb : Bs mem G mm R E C LV B Wn T U D) (hk : k < 4) : ∀ i j, i < j → j < sta (lfs (LV k)) (lfs (LV k)).length → v_ord (lat D (lfs (LV k)) i) ≤ v_ord (lat D (lfs (LV k)) j) := by
  intro i j hij hj
  have hT := hb.2.2.2.2.2.2 k hk
  rw [sta_all (fun τ hτ => (hT τ hτ).2.1)] at hj
  rw [sw_ord (lat_G _ hT i (by omega)), sw_ord (lat_G _ hT j hj)]
  exact Rg_s hG hg (k + 1) (by omega) i j hij hj
theorem lv_ord (hG : Hg G) (hg : Rg G (rms mm LV)) (hb : Bs mem G mm R E C LV B Wn T U D) (hk : k < 4) {i : Nat} (hi : i < (lms (LV k)).flatten.length) : v_ord (lat D (lfs (LV k)) i) = oN (gK G) ((lms (LV k)).flatten.getD i 0) := by
  have hT := hb.2.2.2.2.2.2 k hk
  rw [sw_ord (lat_G _ hT i hi)]
  have : (lms (LV k)).flatten.getD i 0 < 1023 := Rg_lt hg (r := k + 1) (by omega) hi
  exact gO hG (by omega)
theorem v_at_ord {f : Nat → Int64} {m : Nat} (hm : m < 1024) : v_ord (v_at f m) = v_key f * 1024 + m := by
  have hd := v_desc (f := f) (m := m) (t := 0) (s := 0) (p := 0) hm (by omega) (by omega) (by omega)
  unfold v_ord v_key v_at
  rw [hd.1, hd.2.1, hd.2.2.1]
theorem gh_reach (d : Nat) {f : Nat → Int64} (hG : Hg G) (hg : Rg G (rms mm LV)) (hb : Bs mem G mm R E C LV B Wn T U D) (hV : Vs mem) (hk : k < 4) (hv : Ve mem 26 27 f) :
    ∃ a kk mem', j_ex tb (d + 9) m_Lv_firstTableReaching [.ref (32 + 4 * k), .ref 26] mem (.inl (some (.int (nI a)))) mem' ∧ Sf mem mem' ∧ Vs mem' ∧ (∀ c, 47 ≤ c → mem'.2.2 c = mem.2.2 c) ∧ mem'.2.2 28 = mem.2.2 28 ∧ mem'.2.2 29 = mem.2.2 29 ∧ a ≤ (LV k).length ∧
      kk ≤ (lms (LV k)).flatten.length ∧ (∀ i, i < kk → oN (gK G) ((lms (LV k)).flatten.getD i 0) < v_key f * 1024) ∧ ((lms (LV k)).flatten.length ≤ kk → a = (lms (LV k)).length) ∧ (kk < (lms (LV k)).flatten.length → a < (lms (LV k)).length ∧ stl (lms (LV k)) a ≤ kk ∧ kk < stl (lms (LV k)) (a + 1)) := by
  obtain ⟨fm, hLv⟩ := Lv_of hb hV hk
  have hT := hb.2.2.2.2.2.2 k hk
  have hlenT : ∀ τ ∈ LV k, τ.2.length = τ.1.2.2.2.1 := fun τ hτ => (hT τ hτ).2.1
  have hW : ∀ τ ∈ lfs (LV k), Wt B τ := fun τ hτ => by
    obtain ⟨σ, h1, rfl⟩ := lfs_mem hτ
    exact (hT σ h1).1
  obtain ⟨l1, l2, l3, l4⟩ := hb.2.2.2.1 k hk
  obtain ⟨a, kk, f'', q1, q2, q3, q4, q5, q6⟩ := x_Lv_reach d hLv l2 (by omega) hb.2.2.2.2.1 hb.2.2.2.2.2.1 hW l3 l4 hv (by omega) (by omega) (by omega) (lv_sorted hG hg hb hk)
  rw [sta_all hlenT] at q1 q3 q4 q5
  rw [lfs_len, ← lms_len] at q4 q5
  rw [sta_stl _ hlenT, sta_stl _ hlenT] at q5
  have hk4 : k = 0 ∨ k = 1 ∨ k = 2 ∨ k = 3 := by omega
  refine ⟨a, kk, _, q6, Sf_trans (Sf_set mem _ (by unfold scell; omega)) (Sf_set _ _ (by unfold scell; omega)), ?_, fun c hc => by rw [st_ne _ _ (by omega), st_ne _ _ (by omega)], by rw [st_ne _ _ (by omega), st_ne _ _ (by omega)], by rw [st_ne _ _ (by omega), st_ne _ _ (by omega)], ?_, q1, fun i hi => ?_, q4, q5⟩
  · exact Vs_set (v := 32 + 4 * k + 1) (Vs_set (v := 26) hV (by unfold vcell; omega) _) (by unfold vcell; omega) _
  · rw [lms_len] at q4 q5
    rcases Nat.lt_or_ge kk (lms (LV k)).flatten.length with c | c
    · exact Nat.le_of_lt (q5 c).1
    · exact Nat.le_of_eq (q4 c)
  · have := q2 i hi
    rw [lv_ord hG hg hb hk (by omega), v_at_ord (by omega), Nat.add_zero] at this
    exact this
theorem gh_beyond (d : Nat) {f : Nat → Int64} (hG : Hg G) (hg : Rg G (rms mm LV)) (hb : Bs mem G mm R E C LV B Wn T U D) (hV : Vs mem) (hk : k < 4) (hv : Ve mem 28 29 f) :
    ∃ b kk mem', j_ex tb (d + 9) m_Lv_firstTableBeyond [.ref (32 + 4 * k), .ref 28] mem (.inl (some (.int (nI b)))) mem' ∧ Sf mem mem' ∧ Vs mem' ∧ (∀ c, 47 ≤ c → mem'.2.2 c = mem.2.2 c) ∧
      kk ≤ (lms (LV k)).flatten.length ∧ (∀ i, kk ≤ i → i < (lms (LV k)).flatten.length → v_key f * 1024 + 1023 ≤ oN (gK G) ((lms (LV k)).flatten.getD i 0)) ∧ (kk = 0 → b = 0) ∧ (0 < kk → 1 ≤ b ∧ b ≤ (lms (LV k)).length ∧ stl (lms (LV k)) (b - 1) < kk ∧ kk ≤ stl (lms (LV k)) b) := by
  obtain ⟨fm, hLv⟩ := Lv_of hb hV hk
  have hT := hb.2.2.2.2.2.2 k hk
  have hlenT : ∀ τ ∈ LV k, τ.2.length = τ.1.2.2.2.1 := fun τ hτ => (hT τ hτ).2.1
  have hW : ∀ τ ∈ lfs (LV k), Wt B τ := fun τ hτ => by
    obtain ⟨σ, h1, rfl⟩ := lfs_mem hτ
    exact (hT σ h1).1
  obtain ⟨l1, l2, l3, l4⟩ := hb.2.2.2.1 k hk
  obtain ⟨b, kk, f'', q1, q2, q3, q4, q5, q6⟩ := x_Lv_beyond d hLv l2 (by omega) hb.2.2.2.2.1 hb.2.2.2.2.2.1 hW l3 l4 hv (by omega) (by omega) (by omega) (lv_sorted hG hg hb hk)
  rw [sta_all hlenT] at q1 q3
  rw [lfs_len, ← lms_len] at q5
  rw [sta_stl _ hlenT, sta_stl _ hlenT] at q5
  have hk4 : k = 0 ∨ k = 1 ∨ k = 2 ∨ k = 3 := by omega
  refine ⟨b, kk, _, q6, Sf_trans (Sf_set mem _ (by unfold scell; omega)) (Sf_set _ _ (by unfold scell; omega)), ?_, fun c hc => by rw [st_ne _ _ (by omega), st_ne _ _ (by omega)], q1, fun i hi hi2 => ?_, q4, q5⟩
  · exact Vs_set (v := 32 + 4 * k + 1) (Vs_set (v := 28) hV (by unfold vcell; omega) _) (by unfold vcell; omega) _
  · have := q3 i hi hi2
    rw [lv_ord hG hg hb hk hi2, v_at_ord (by omega)] at this
    exact this
/-- a version of a run is loaded -/
theorem gh_load (d : Nat) {r i v : Nat} (hb : Bs mem G mm R E C LV B Wn T U D) (hV : Vs mem) (hr : r < 5) (hi : i < (rms mm LV r).length) (hv : v = 24 ∨ v = 26 ∨ v = 28) :
    ∃ f', sw f' (G ((rms mm LV r).getD i 0)) ∧ j_ex tb (d + 5) (rL (rc r)) [.ref (ra r), .int (nI i), .ref v] mem (.inl none) (j_set mem (v + 1) (vW f')) ∧ Sf mem (j_set mem (v + 1) (vW f')) ∧ Vs (j_set mem (v + 1) (vW f')) ∧ Ve (j_set mem (v + 1) (vW f')) v (v + 1) f' := by
  have hvc : vcell v := by unfold vcell; omega
  obtain ⟨f, hf⟩ := hV v hvc
  obtain ⟨f', q1, q2⟩ := (Bs_Rd hb).2 d mem rfl (fun _ _ => rfl) r i v (v + 1) f hr hi hf (by omega)
  exact ⟨f', q1, q2, Sf_set _ _ (by unfold scell; omega), Vs_set hV hvc f', ⟨by rw [st_ne _ _ (by omega)]; exact hf.1, st_same _ _ _⟩⟩
end SEARCH
