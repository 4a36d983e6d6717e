/-! TABLES WITH WHAT THEY HOLD; THE STORE BEHIND THE RUNS (own text) -/
/-- a table, and the moments of its versions -/
abbrev TG : Type := TR × List Nat
def lfs (l : List TG) : List TR := l.map (fun τ => τ.1)
def lms (l : List TG) : List (List Nat) := l.map (fun τ => τ.2)
def ubs (l : List TG) : List Nat := l.flatMap (fun τ => τ.1.2.2.1)
def tsm (G : Nat → Nat → Int64) (l : List Nat) : Int64 := l.foldl (fun s m => vsum (G m) s) 0
theorem tsm_app (G : Nat → Nat → Int64) (l : List Nat) (x : Nat) : tsm G (l ++ [x]) = vsum (G x) (tsm G l) := by
  unfold tsm
  rw [List.foldl_append]
  rfl
/-- a table is as it should be: blocks, count, sum, words -/
def Tok (B : Nat → Option Nat) (D : Nat → Nat → Int64) (G : Nat → Nat → Int64) (τ : TG) : Prop := Wt B τ.1 ∧ τ.2.length = τ.1.2.2.2.1 ∧ τ.1.2.2.2.2 = tsm G τ.2 ∧ ∀ p, p < τ.2.length → sw (tat D τ.1 p) (G (τ.2.getD p 0))
theorem Tok_fr {B B' : Nat → Option Nat} {D D' : Nat → Nat → Int64} {G : Nat → Nat → Int64} {τ : TG} (h : Tok B D G τ) (hB : ∀ b ∈ τ.1.2.2.1, ∀ a, B b = some a → ∃ a', B' b = some a') (hD : ∀ b ∈ τ.1.2.2.1, D' b = D b) : Tok B' D' G τ := by
  obtain ⟨⟨w1, w2, w3⟩, h2, h3, h4⟩ := h
  refine ⟨⟨w1, w2, fun b hb => ⟨(w3 b hb).1, ?_⟩⟩, h2, h3, fun p hp => ?_⟩
  · obtain ⟨a, ha⟩ := (w3 b hb).2
    exact hB b hb a ha
  · have hm : τ.1.2.2.1.getD (p / 8) 0 ∈ τ.1.2.2.1 := getD_mem (by rw [w2]; omega)
    have e : tat D' τ.1 p = tat D τ.1 p := by
      unfold tat
      rw [hD _ hm]
    rw [e]
    exact h4 p hp
theorem Tok_G {B : Nat → Option Nat} {D : Nat → Nat → Int64} {G G' : Nat → Nat → Int64} {τ : TG} (h : Tok B D G τ) (hG : ∀ t ∈ τ.2, G' t = G t) : Tok B D G' τ := by
  obtain ⟨h1, h2, h3, h4⟩ := h
  refine ⟨h1, h2, ?_, fun p hp => by rw [hG _ (getD_mem hp)]; exact h4 p hp⟩
  rw [h3]
  unfold tsm
  generalize (0 : Int64) = z
  have : ∀ (l : List Nat) (z : Int64), (∀ t ∈ l, G' t = G t) → l.foldl (fun s m => vsum (G m) s) z = l.foldl (fun s m => vsum (G' m) s) z := by
    intro l
    induction l with
    | nil => intro z _; rfl
    | cons x l ih =>
      intro z hz
      rw [List.foldl_cons, List.foldl_cons, hz x List.mem_cons_self]
      exact ih _ (fun t ht => hz t (List.mem_cons_of_mem _ ht))
  exact this _ _ hG
theorem sta_stl : ∀ (l : List TG), (∀ τ ∈ l, τ.2.length = τ.1.2.2.2.1) → ∀ j, sta (lfs l) j = stl (lms l) j
  | [], _, j => by
    cases j <;> rfl
  | τ :: l, h, 0 => rfl
  | τ :: l, h, j + 1 => by
    have e1 : sta (lfs (τ :: l)) (j + 1) = τ.1.2.2.2.1 + sta (lfs l) j := sta_cons τ.1 (lfs l) j
    have e2 : stl (lms (τ :: l)) (j + 1) = τ.2.length + stl (lms l) j := by
      unfold stl lms
      rw [List.map_cons, List.take_succ_cons, List.flatten_cons, List.length_append]
    rw [e1, e2, sta_stl l (fun τ hτ => h τ (List.mem_cons_of_mem _ hτ)) j, h τ List.mem_cons_self]
theorem lfs_len (l : List TG) : (lfs l).length = l.length := List.length_map _
theorem lms_len (l : List TG) : (lms l).length = l.length := List.length_map _
theorem sta_all {l : List TG} (h : ∀ τ ∈ l, τ.2.length = τ.1.2.2.2.1) : sta (lfs l) (lfs l).length = (lms l).flatten.length := by
  rw [sta_stl l h, lfs_len, ← lms_len, stl_all]
theorem lat_G {B : Nat → Option Nat} {D : Nat → Nat → Int64} {G : Nat → Nat → Int64} : ∀ (l : List TG), (∀ τ ∈ l, Tok B D G τ) → ∀ i, i < (lms l).flatten.length → sw (lat D (lfs l) i) (G ((lms l).flatten.getD i 0))
  | [], _, i, hi => by cases hi
  | τ :: l, h, i, hi => by
    obtain ⟨-, t2, -, t4⟩ := h τ List.mem_cons_self
    have e0 : lfs (τ :: l) = τ.1 :: lfs l := rfl
    have e1 : (lms (τ :: l)).flatten = τ.2 ++ (lms l).flatten := rfl
    rw [e1] at hi ⊢
    rw [e0, lat]
    by_cases c : i < τ.1.2.2.2.1
    · rw [if_pos c]
      have c' : i < τ.2.length := by omega
      rw [List.getD_eq_getElem?_getD, List.getElem?_append_left c', ← List.getD_eq_getElem?_getD]
      exact t4 i c'
    · rw [if_neg c]
      rw [List.length_append] at hi
      rw [List.getD_eq_getElem?_getD, List.getElem?_append_right (by omega), ← List.getD_eq_getElem?_getD, t2]
      exact lat_G l (fun τ hτ => h τ (List.mem_cons_of_mem _ hτ)) (i - τ.1.2.2.2.1) (by omega)
/-- memory, levels and chip in memory; their versions are the history's -/
def Bs (mem : j_M) (G : Nat → Nat → Int64) (mm : List Nat) (R : Nat → Int64) (E C : Nat → Nat) (LV : Nat → List TG) (B : Nat → Option Nat) (Wn T U : Nat → Int32) (D : Nat → Nat → Int64) : Prop :=
  Mw mem mm.length R ∧ mm.length ≤ 500 ∧ (∀ i, i < mm.length → sw (row R i) (G (mm.getD i 0))) ∧ Lvs mem E C (fun k => lfs (LV k)) ∧ Cp mem B Wn T U ∧ Rw mem B D ∧ ∀ k, k < 4 → ∀ τ ∈ LV k, Tok B D G τ
def rms (mm : List Nat) (LV : Nat → List TG) (r : Nat) : List Nat := if r = 0 then mm else (lms (LV (r - 1))).flatten
theorem sw_tr {f g h : Nat → Int64} (a : sw f g) (b : sw g h) : sw f h := fun j hj => (a j hj).trans (b j hj)
theorem sw_sy {f g : Nat → Int64} (a : sw f g) : sw g f := fun j hj => (a j hj).symm
theorem Rd_cg {mem : j_M} {cnt cnt' : Nat → Nat} {W W' : Nat → Nat → Nat → Int64} (h : Rd mem cnt W) (h1 : ∀ r, r < 5 → cnt' r = cnt r) (h2 : ∀ r, r < 5 → ∀ i, i < cnt r → sw (W r i) (W' r i)) : Rd mem cnt' W' := by
  refine ⟨fun r hr => by rw [h1 r hr]; exact h.1 r hr, fun d m' e1 e2 r i v w f hr hi hv hw => ?_⟩
  rw [h1 r hr] at hi
  obtain ⟨f', a, b⟩ := h.2 d m' e1 e2 r i v w f hr hi hv hw
  exact ⟨f', sw_tr a (h2 r hr i hi), b⟩
theorem Fb_cg {mem : j_M} {cnt cnt' : Nat → Nat} {W W' : Nat → Nat → Nat → Int64} (h : Fb mem cnt W) (h1 : ∀ r, r < 5 → cnt' r = cnt r) (h2 : ∀ r, r < 5 → ∀ i, i < cnt r → sw (W r i) (W' r i)) : Fb mem cnt' W' := by
  intro d m' e1 e2 e3 r hr
  obtain ⟨a, b⟩ := h d m' e1 e2 e3 r hr
  refine ⟨by rw [h1 r hr]; exact a, fun vt ft q1 q2 q3 => ?_⟩
  obtain ⟨k, f'', g1, g2, g3, g4⟩ := b vt ft q1 q2 q3
  refine ⟨k, f'', by rw [h1 r hr]; exact g1, fun i hi => ?_, fun i hi hj => ?_, g4⟩
  · rw [← sw_ord (h2 r hr i (by omega))]
    exact g2 i hi
  · rw [h1 r hr] at hj
    rw [← sw_ord (h2 r hr i hj)]
    exact g3 i hi hj
section BASE
variable {mem : j_M} {G : Nat → Nat → Int64} {mm : List Nat} {R : Nat → Int64} {E C : Nat → Nat} {LV : Nat → List TG} {B : Nat → Option Nat} {Wn T U : Nat → Int32} {D : Nat → Nat → Int64}
theorem Bs_cn (h : Bs mem G mm R E C LV B Wn T U D) : ∀ r, r < 5 → cn (rms mm LV) r = rcnt mm.length (fun k => lfs (LV k)) r := by
  intro r hr
  unfold cn rms rcnt
  by_cases c : r = 0
  · rw [if_pos c, if_pos c]
  · rw [if_neg c, if_neg c, sta_all (fun τ hτ => (h.2.2.2.2.2.2 (r - 1) (by omega) τ hτ).2.1)]
theorem Bs_wd (h : Bs mem G mm R E C LV B Wn T U D) : ∀ r, r < 5 → ∀ i, i < rcnt mm.length (fun k => lfs (LV k)) r → sw (rwd R D (fun k => lfs (LV k)) r i) (gW G (rms mm LV) r i) := by
  intro r hr i hi
  rw [← Bs_cn h r hr] at hi
  unfold cn rms at hi
  unfold rwd gW rms
  by_cases c : r = 0
  · rw [if_pos c] at hi ⊢
    rw [if_pos c]
    exact h.2.2.1 i hi
  · rw [if_neg c] at hi ⊢
    rw [if_neg c]
    exact lat_G _ (h.2.2.2.2.2.2 (r - 1) (by omega)) i hi
theorem Bs_Rd (h : Bs mem G mm R E C LV B Wn T U D) : Rd mem (cn (rms mm LV)) (gW G (rms mm LV)) := by
  have hW : ∀ k, k < 4 → ∀ τ ∈ lfs (LV k), Wt B τ := fun k hk τ hτ => by
    obtain ⟨σ, h1, rfl⟩ := List.mem_map.mp hτ
    exact (h.2.2.2.2.2.2 k hk σ h1).1
  exact Rd_cg (Rd_of h.1 h.2.1 h.2.2.2.1 h.2.2.2.2.1 h.2.2.2.2.2.1 hW) (Bs_cn h) (Bs_wd h)
theorem Bs_Sr (hG : Hg G) (hg : Rg G (rms mm LV)) (h : Bs mem G mm R E C LV B Wn T U D) : Sr mem G (rms mm LV) := by
  refine ⟨Bs_Rd h, ?_⟩
  have hW : ∀ k, k < 4 → ∀ τ ∈ lfs (LV k), Wt B τ := fun k hk τ hτ => by
    obtain ⟨σ, h1, rfl⟩ := List.mem_map.mp hτ
    exact (h.2.2.2.2.2.2 k hk σ h1).1
  refine Fb_cg (Fb_of h.1 h.2.1 h.2.2.2.1 h.2.2.2.2.1 h.2.2.2.2.2.1 hW (fun r hr i j hij hj => ?_)) (Bs_cn h) (Bs_wd h)
  rw [sw_ord (Bs_wd h r hr i (by omega)), sw_ord (Bs_wd h r hr j hj)]
  exact Rg_s hG hg r hr i j hij (by rw [Bs_cn h r hr]; exact hj)
end BASE
