/-! LEVELTABLES: addVersion (own text) -/
section ADD
variable {mem mem' : j_M} {G G' : Nat → Nat → Int64} {P P' : Nat} {s : Nat → Option Nat} {sh lv lv' : Int32} {mm mm' : List Nat} {R' : Nat → Int64} {LV : Nat → List TG} {J Q m : Nat}
/-- a search, by what stands -/
theorem gh_find (d : Nat) {v : Nat} {fv : Nat → Int64} (hp : Pu G P mm LV) (h : Sy mem G P s sh lv mm LV J Q) (hv : v = 20 ∨ v = 52) (hvf : Ve mem v (v + 1) fv) (hm : m < 1000) :
    ∃ mem' b, j_ex tb (d + 9) m_LT_hasSomething [.ref 4, .ref v, .int (nI m), .int (nI 0)] mem (.inl (some (.int (nI b)))) mem' ∧ Hf mem mem' ∧ Vs mem' ∧
      ((b = 1 ∧ ∃ x ff, sst (gK G) (gT G) (mem5 (rms mm LV)) m x ∧ gK G x = v_key fv ∧ Ve mem' 24 25 ff ∧ sw ff (G x)) ∨ (b = 0 ∧ ¬ ∃ x, sst (gK G) (gT G) (mem5 (rms mm LV)) m x ∧ gK G x = v_key fv)) := by
  obtain ⟨R, E, C, B, Wn, T, U, D, hb, hsb⟩ := Sy_bs h
  obtain ⟨mem', b, k1, k2, k3, k4⟩ := gh_has d (v := v) (m := m) (r0 := 0) hp.1 hp.2.1 hsb.1 hsb.2.2.1 (Bs_Sr hp.1 hp.2.1 hb) hsb.2.2.2.2.1 hv hvf hm (by omega)
  refine ⟨mem', b, k1, k2, k3, ?_⟩
  have ha := hp.2.1.2.2
  rcases k4 with ⟨q1, q2⟩ | ⟨r, t, ff, q1, q2, q3, q4, q5, q6, q7, q8, q9, q10⟩
  · refine Or.inr ⟨q1, fun ⟨x, hx, hk⟩ => ?_⟩
    obtain ⟨r, h1, h2⟩ := hx.1
    exact q2 r (by omega) h1 x h2 hk hx.2.1
  · have hnew : ∀ t', mem5 (rms mm LV) t' → gK G t' = v_key fv → t' ≤ m → t' ≤ t := fun t' ⟨r', h1, h2⟩ hk hle => by
      rcases Nat.lt_trichotomy r r' with c | c | c
      · have := ha r r' c h1 t q3 t' h2 (by omega)
        omega
      · subst c
        exact q6 t' h2 hk hle
      · exact absurd hle (q7 r' (by omega) c t' h2 hk)
    rcases gT_01 G t with c | c
    · refine Or.inr ⟨by omega, fun ⟨x, hx, hk⟩ => ?_⟩
      have h1 := hnew x hx.1 hk hx.2.1
      have hne : x ≠ t := fun e => by
        have := hx.2.2.1
        rw [e] at this
        omega
      exact hx.2.2.2 t ⟨r, q2, q3⟩ (by omega) q5 (by omega)
    · refine Or.inl ⟨by omega, t, ff, ⟨⟨r, q2, q3⟩, q5, c, fun t' h1 h2 h3 h4 => ?_⟩, q4, q9, q10⟩
      have := hnew t' h1 (by omega) h3
      omega
/-- what an addition changes -/
def Af (mem mem' : j_M) : Prop := mem'.1 = mem.1 ∧ mem'.2.1 = mem.2.1 ∧ ∀ c, c ≠ 4 → c ≠ 5 → c ≠ 7 → c ≠ 14 → c ≠ 16 → c ≠ 17 → c ≠ 21 → c ≠ 23 → c ≠ 25 → c ≠ 34 → c ≠ 38 → c ≠ 42 → c ≠ 46 → mem'.2.2 c = mem.2.2 c
theorem Af_trans {m1 m2 m3 : j_M} (h : Af m1 m2) (h' : Af m2 m3) : Af m1 m3 := ⟨h'.1.trans h.1, h'.2.1.trans h.2.1, fun c a1 a2 a3 a4 a5 a6 a7 a8 a9 a10 a11 a12 a13 => (h'.2.2 c a1 a2 a3 a4 a5 a6 a7 a8 a9 a10 a11 a12 a13).trans (h.2.2 c a1 a2 a3 a4 a5 a6 a7 a8 a9 a10 a11 a12 a13)⟩
theorem Af_set (mem : j_M) {a : Nat} (x : j_C) (h : a = 4 ∨ a = 5 ∨ a = 7 ∨ a = 14 ∨ a = 16 ∨ a = 17 ∨ a = 21) : Af mem (j_set mem a x) := ⟨rfl, rfl, fun c a1 a2 a3 a4 a5 a6 a7 a8 a9 a10 a11 a12 a13 => st_ne _ _ (by omega)⟩
theorem Af_hf (h : Hf mem mem') : Af mem mem' := ⟨h.1, h.2.1, fun c a1 a2 a3 a4 a5 a6 a7 a8 a9 a10 a11 a12 a13 => h.2.2 c a8 a9 a5 a10 a11 a12 a13⟩
theorem Af_c (h : Af mem mem') {c : Nat} (hc : c < 4 ∨ c = 6 ∨ (8 ≤ c ∧ c < 14) ∨ c = 15 ∨ c = 18 ∨ c = 19 ∨ c = 20 ∨ (26 ≤ c ∧ c < 34) ∨ (35 ≤ c ∧ c < 38) ∨ (39 ≤ c ∧ c < 42) ∨ (43 ≤ c ∧ c < 46) ∨ 47 ≤ c) : mem'.2.2 c = mem.2.2 c := h.2.2 c (by omega) (by omega) (by omega) (by omega) (by omega) (by omega) (by omega) (by omega) (by omega) (by omega) (by omega) (by omega) (by omega)
theorem Sy_af (h : Sy mem G P s sh lv mm LV J Q) (hf : Af mem mem') (hL : LT mem' sh lv') (hVw : Vw mem' P' s) (hM : Mw mem' mm'.length R') (hn : mm'.length ≤ 500) (hR : ∀ i, i < mm'.length → sw (row R' i) (G' (mm'.getD i 0))) (hG : ∀ k, k < 4 → ∀ τ ∈ LV k, ∀ t ∈ τ.2, G' t = G t) (hV : Vs mem') : Sy mem' G' P' s sh lv' mm' LV J Q := by
  obtain ⟨R, E, C, B, Wn, T, U, D, e, cap, ⟨a1, a2, ⟨Hr, r1, r2⟩, ⟨Hl, l1, l2⟩, a5, a6⟩, h2, ⟨⟨p1, p2, bf, p3, p4⟩, ⟨xs, md, Ef, q1, q2, q3, q4⟩, h5⟩, h6, h7, h12, h13, h14⟩ := h
  have e2 : e = 2 ∨ 78 ≤ e := by
    by_cases c : cap = 0
    · exact Or.inl (h5.1 c)
    · exact Or.inr (h5.2 c).1
  refine ⟨R', E, C, B, Wn, T, U, D, e, cap, ⟨hL, hVw, ⟨Hr, (Af_c hf (by omega)).trans r1, r2⟩, ⟨Hl, (Af_c hf (by omega)).trans l1, l2⟩, hV, Wz_fr a6 (fun c c1 c2 => Af_c hf (by omega)) (Af_c hf (by omega))⟩, Bs_mm h2 hf.1 (fun c c1 c2 c3 c4 => Af_c hf (by unfold rcell at c4; omega)) hM hn hR hG, ⟨⟨(Af_c hf (by omega)).trans p1, p2, bf, (Af_c hf (by omega)).trans p3, p4⟩, ⟨xs, md, Ef, (Af_c hf (by omega)).trans q1, (Af_c hf (by omega)).trans q2, q3, q4⟩, ⟨h5.1, by rw [hf.1]; exact h5.2⟩⟩, h6, h7, by rw [hf.1]; exact h12, h13, ?_⟩
  unfold Rm at h14 ⊢
  rw [hf.1, hf.2.1]
  exact h14
theorem So_cg {K K' : Nat → Nat} {l : List Nat} (h : So K l) (hK : ∀ t ∈ l, K' t = K t) : So K' l := by
  unfold So at h ⊢
  refine List.Pairwise.imp_of_mem ?_ h
  intro a b ha hb hab
  unfold oN at hab ⊢
  rw [hK a ha, hK b hb]
  exact hab
theorem rms_0 (mm : List Nat) (LV : Nat → List TG) : rms mm LV 0 = mm := rfl
theorem rms_s (mm mm' : List Nat) (LV : Nat → List TG) {r : Nat} (hr : r ≠ 0) : rms mm' LV r = rms mm LV r := by
  unfold rms
  rw [if_neg hr, if_neg hr]
/-- the pure side of an addition: moment P + 1 with words g, at place k of memory -/
theorem Pu_add {g : Nat → Int64} {k : Nat} (hp : Pu G P mm LV) (hP : P < 500) (hgm : v_mom g = P + 1) (hk : k ≤ mm.length) (h1 : ∀ i, i < k → v_ord (G (mm.getD i 0)) < v_ord g) (h2 : ∀ i, k ≤ i → i < mm.length → v_ord g ≤ v_ord (G (mm.getD i 0))) :
    Pu (va_up G (P + 1) g) (P + 1) (mm.take k ++ (P + 1) :: mm.drop k) LV ∧ ∀ t, mem5 (rms (mm.take k ++ (P + 1) :: mm.drop k) LV) t ↔ mem5 (rms mm LV) t ∨ t = P + 1 := by
  obtain ⟨p1, ⟨p2, p3, p4⟩, p5, p6⟩ := hp
  have hG : ∀ t, t ≤ P → va_up G (P + 1) g t = G t := fun t ht => va_up_ne _ _ (by omega)
  have hK : ∀ t, t ≤ P → gK (va_up G (P + 1) g) t = gK G t := fun t ht => by unfold gK; rw [hG t ht]
  have hKn : gK (va_up G (P + 1) g) (P + 1) = v_key g := by unfold gK; rw [va_up_self]
  have mm0 : ∀ t, t ∈ mm.take k ++ (P + 1) :: mm.drop k ↔ t ∈ mm ∨ t = P + 1 := fun t => by
    have : t ∈ mm ↔ t ∈ mm.take k ∨ t ∈ mm.drop k := by rw [← List.mem_append, List.take_append_drop]
    rw [List.mem_append, List.mem_cons, this]
    constructor
    · rintro (q | q | q)
      · exact Or.inl (Or.inl q)
      · exact Or.inr q
      · exact Or.inl (Or.inr q)
    · rintro ((q | q) | q)
      · exact Or.inl q
      · exact Or.inr (Or.inr q)
      · exact Or.inr (Or.inl q)
  have hmP : ∀ t ∈ mm, 1 ≤ t ∧ t ≤ P := fun t ht => ⟨(p3 0 (by omega) t ht).1, p5 0 (by omega) t ht⟩
  have hoN : ∀ t ∈ mm, oN (gK (va_up G (P + 1) g)) t = v_ord (G t) := fun t ht => by
    have := hmP t ht
    unfold oN v_ord
    rw [hK t (by omega), p1 t (by omega)]
    rfl
  have hoNn : oN (gK (va_up G (P + 1) g)) (P + 1) = v_ord g := by
    unfold oN v_ord
    rw [hKn, hgm]
  have hso : So (gK (va_up G (P + 1) g)) (mm.take k ++ (P + 1) :: mm.drop k) := by
    have hs0 : So (gK (va_up G (P + 1) g)) mm := So_cg (p2 0 (by omega)) (fun t ht => hK t (hmP t ht).2)
    have hs1 : So (gK (va_up G (P + 1) g)) (mm.take k ++ mm.drop k) := by rw [List.take_append_drop]; exact hs0
    have hs2 := List.pairwise_append.mp hs1
    have lo : ∀ t ∈ mm.take k, v_ord (G t) < v_ord g := fun t ht => by
      obtain ⟨i, hi, rfl⟩ := List.mem_iff_getElem.mp ht
      have hi' : i < k ∧ i < mm.length := by rw [List.length_take] at hi; omega
      have := h1 i hi'.1
      rw [getD_lt hi'.2] at this
      rw [List.getElem_take]
      exact this
    have hi : ∀ t ∈ mm.drop k, v_ord g < v_ord (G t) := fun t ht => by
      obtain ⟨i, hi, rfl⟩ := List.mem_iff_getElem.mp ht
      rw [List.length_drop] at hi
      have h3 := h2 (k + i) (by omega) (by omega)
      have hm : mm[k + i] ∈ mm := List.getElem_mem _
      rw [getD_lt (by omega)] at h3
      rw [List.getElem_drop]
      rcases Nat.lt_or_ge (v_ord g) (v_ord (G mm[k + i])) with c | c
      · exact c
      · exfalso
        have e : v_ord g = v_ord (G mm[k + i]) := by omega
        rw [← hoNn, ← hoN _ hm] at e
        have h4 := hmP _ hm
        have := oN_inj (by omega) (by omega) e
        omega
    refine List.pairwise_append.mpr ⟨hs2.1, List.pairwise_cons.mpr ⟨fun t ht => ?_, hs2.2.1⟩, fun x hx y hy => ?_⟩
    · rw [hoNn, hoN t (List.mem_of_mem_drop ht)]
      exact hi t ht
    · rcases List.mem_cons.mp hy with q | q
      · subst q
        rw [hoNn, hoN x (List.mem_of_mem_take hx)]
        exact lo x hx
      · exact hs2.2.2 x hx y q
  have inr : ∀ r, r ≠ 0 → rms (mm.take k ++ (P + 1) :: mm.drop k) LV r = rms mm LV r := fun r hr => rms_s _ _ _ hr
  refine ⟨⟨fun m hm => ?_, ⟨fun r hr => ?_, fun r hr t ht => ?_, fun r r' hrr hr' t ht t' ht' hk' => ?_⟩, fun r hr t ht => ?_, fun k' hk' => ⟨?_, (p6 k' hk').2⟩⟩, fun t => ?_⟩
  · by_cases c : m = P + 1
    · subst c
      rw [va_up_self]
      exact hgm
    · rw [va_up_ne _ _ c]
      exact p1 m hm
  · by_cases c : r = 0
    · subst c
      exact hso
    · rw [inr r c]
      exact So_cg (p2 r hr) (fun t ht => hK t (p5 r hr t ht))
  · by_cases c : r = 0
    · subst c
      rcases (mm0 t).mp ht with q | q
      · exact p3 0 hr t q
      · omega
    · rw [inr r c] at ht
      exact p3 r hr t ht
  · rw [inr r' (by omega)] at ht'
    have h5 := p5 r' hr' t' ht'
    by_cases c : r = 0
    · subst c
      rcases (mm0 t).mp ht with q | q
      · have := (hmP t q).2
        rw [hK t (by omega), hK t' h5] at hk'
        exact p4 0 r' hrr hr' t q t' ht' hk'
      · omega
    · rw [inr r c] at ht
      have := p5 r (by omega) t ht
      rw [hK t this, hK t' h5] at hk'
      exact p4 r r' hrr hr' t ht t' ht' hk'
  · by_cases c : r = 0
    · subst c
      rcases (mm0 t).mp ht with q | q
      · have := (hmP t q).2
        omega
      · omega
    · rw [inr r c] at ht
      have := p5 r hr t ht
      omega
  · refine List.Pairwise.imp_of_mem ?_ (p6 k' hk').1
    intro A A' hA hA' hap x hx y hy
    have mx : x ∈ rms mm LV (k' + 1) := List.mem_flatten.mpr ⟨A, hA, hx⟩
    have my : y ∈ rms mm LV (k' + 1) := List.mem_flatten.mpr ⟨A', hA', hy⟩
    rw [hK x (p5 (k' + 1) (by omega) x mx), hK y (p5 (k' + 1) (by omega) y my)]
    exact hap x hx y hy
  · constructor
    · rintro ⟨r, hr, ht⟩
      by_cases c : r = 0
      · subst c
        rcases (mm0 t).mp ht with q | q
        · exact Or.inl ⟨0, hr, q⟩
        · exact Or.inr q
      · rw [inr r c] at ht
        exact Or.inl ⟨r, hr, ht⟩
    · rintro (⟨r, hr, ht⟩ | q)
      · by_cases c : r = 0
        · subst c
          exact ⟨0, hr, (mm0 t).mpr (Or.inl ht)⟩
        · exact ⟨r, hr, by rw [inr r c]; exact ht⟩
      · exact ⟨0, by omega, (mm0 t).mpr (Or.inr q)⟩
end ADD
