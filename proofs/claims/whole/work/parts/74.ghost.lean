/-! THE RUNS' VERSIONS AS MOMENTS OF A HISTORY OF WORDS (own text) -/
def gW (G : Nat → Nat → Int64) (ms : Nat → List Nat) (r i : Nat) : Nat → Int64 := G ((ms r).getD i 0)
def gK (G : Nat → Nat → Int64) (m : Nat) : Nat := v_key (G m)
def gT (G : Nat → Nat → Int64) (m : Nat) : Nat := v_th (G m)
def cn (ms : Nat → List Nat) (r : Nat) : Nat := (ms r).length
/-- every moment's words say that moment -/
def Hg (G : Nat → Nat → Int64) : Prop := ∀ m, m < 1024 → v_mom (G m) = m
theorem gO {G : Nat → Nat → Int64} (h : Hg G) {m : Nat} (hm : m < 1024) : v_ord (G m) = oN (gK G) m := by
  unfold v_ord oN gK
  rw [h m hm]
theorem gT_01 (G : Nat → Nat → Int64) (t : Nat) : gT G t = 0 ∨ gT G t = 1 := by
  have : gT G t < 2 := Nat.mod_lt _ (by decide)
  omega
/-- the runs: in order, moments from 1 on, newer higher up -/
def Rg (G : Nat → Nat → Int64) (ms : Nat → List Nat) : Prop := (∀ r, r < 5 → So (gK G) (ms r)) ∧ (∀ r, r < 5 → ∀ t ∈ ms r, 1 ≤ t ∧ t ≤ 500) ∧ age (gK G) ms
theorem getD_mm {l : List Nat} {i : Nat} (h : i < l.length) : l.getD i 0 ∈ l := getD_mem h
theorem mm_getD {l : List Nat} {t : Nat} (h : t ∈ l) : ∃ i, i < l.length ∧ t = l.getD i 0 := by
  obtain ⟨i, hi, rfl⟩ := List.mem_iff_getElem.mp h
  exact ⟨i, hi, (getD_lt hi).symm⟩
theorem So_get {K : Nat → Nat} {l : List Nat} (h : So K l) {i j : Nat} (hij : i < j) (hj : j < l.length) : oN K (l.getD i 0) < oN K (l.getD j 0) := by
  rw [getD_lt hj, getD_lt (by omega)]
  exact List.pairwise_iff_getElem.mp h i j (by omega) hj hij
section GHOST
variable {G : Nat → Nat → Int64} {ms : Nat → List Nat}
theorem Rg_lt (h : Rg G ms) {r i : Nat} (hr : r < 5) (hi : i < (ms r).length) : (ms r).getD i 0 < 1023 := by
  have := h.2.1 r hr _ (getD_mm hi)
  omega
theorem Rg_s (hG : Hg G) (h : Rg G ms) : ∀ r, r < 5 → ∀ i j, i < j → j < cn ms r → v_ord (gW G ms r i) ≤ v_ord (gW G ms r j) := by
  intro r hr i j hij hj
  unfold gW
  unfold cn at hj
  have e1 := Rg_lt h hr (show i < (ms r).length by omega)
  have e2 := Rg_lt h hr hj
  rw [gO hG (by omega), gO hG (by omega)]
  exact Nat.le_of_lt (So_get (h.1 r hr) hij hj)
/-- the runs can be read, searched and counted -/
def Sr (mem : j_M) (G : Nat → Nat → Int64) (ms : Nat → List Nat) : Prop := Rd mem (cn ms) (gW G ms) ∧ Fb mem (cn ms) (gW G ms)
def Rns (mem : j_M) : Prop := ∃ Hr, mem.2.2 19 = some (.inl (4, 5, .inr (.inr (.inr (.inr Hr))))) ∧ ∀ r, r < 5 → Hr r = some (ra r)
theorem Sr_fr {mem mem' : j_M} (h : Sr mem G ms) (h1 : mem'.1 = mem.1) (h2 : ∀ c, rcell c → mem'.2.2 c = mem.2.2 c) : Sr mem' G ms := ⟨Rd_fr h.1 h1 h2, Fb_fr h.2 h1 h2⟩
theorem gh_has (d : Nat) {mem : j_M} {sh lv : Int32} {v m r0 : Nat} {fv : Nat → Int64} (hG : Hg G) (hg : Rg G ms) (hLT : LT mem sh lv) (hru : Rns mem) (hS : Sr mem G ms) (hVs : Vs mem) (hv : v = 20 ∨ v = 52) (hvf : Ve mem v (v + 1) fv) (hm : m < 1000) (hr0 : r0 ≤ 5) :
    ∃ mem' b, j_ex tb (d + 9) m_LT_hasSomething [.ref 4, .ref v, .int (nI m), .int (nI r0)] mem (.inl (some (.int (nI b)))) mem' ∧ Hf mem mem' ∧ Vs mem' ∧
      ((b = 0 ∧ ∀ r, r0 ≤ r → r < 5 → ∀ t ∈ ms r, gK G t = v_key fv → ¬ t ≤ m) ∨
      ∃ r t ff, r0 ≤ r ∧ r < 5 ∧ t ∈ ms r ∧ gK G t = v_key fv ∧ t ≤ m ∧ (∀ t' ∈ ms r, gK G t' = v_key fv → t' ≤ m → t' ≤ t) ∧ (∀ r', r0 ≤ r' → r' < r → ∀ t' ∈ ms r', gK G t' = v_key fv → ¬ t' ≤ m) ∧ b = gT G t ∧ Ve mem' 24 25 ff ∧ sw ff (G t)) := by
  obtain ⟨mem', b, h1, h2, h3, h4⟩ := x_LT_has d hLT hru hS.1 hS.2 (Rg_s hG hg) hVs hv hvf hm hr0
  have mo : ∀ r, r < 5 → ∀ j, j < (ms r).length → v_mom (gW G ms r j) = (ms r).getD j 0 := fun r hr j hj => hG _ (by have := Rg_lt hg hr hj; omega)
  have nn : ∀ r, r < 5 → nonein (cn ms) (gW G ms) r (v_key fv) m → ∀ t ∈ ms r, gK G t = v_key fv → ¬ t ≤ m := fun r hr q t ht hk => by
    obtain ⟨i, hi, rfl⟩ := mm_getD ht
    have := q i hi hk
    rwa [mo r hr i hi] at this
  refine ⟨mem', b, h1, h2, h3, ?_⟩
  rcases h4 with ⟨q1, q2⟩ | ⟨r, i, ff, q1, q2, ⟨a1, a2, a3, a4⟩, q4, q5, q6, q7⟩
  · exact Or.inl ⟨q1, fun r e1 e2 => nn r e2 (q2 r e1 e2)⟩
  · refine Or.inr ⟨r, (ms r).getD i 0, ff, q1, q2, getD_mm a1, a2, by rw [mo r q2 i a1] at a3; exact a3, fun t' ht' hk hle => ?_, fun r' e1 e2 => nn r' (by omega) (q4 r' e1 e2), q5, q6, q7⟩
    obtain ⟨j, hj, rfl⟩ := mm_getD ht'
    have := a4 j hj hk (by rw [mo r q2 j hj]; exact hle)
    unfold v_ord at this
    rw [mo r q2 i a1, mo r q2 j hj, show v_key (gW G ms r j) = v_key fv from hk, a2] at this
    omega
theorem gh_next (d : Nat) {mem : j_M} {sh lv : Int32} {v l0 : Nat} {fv : Nat → Int64} (hG : Hg G) (hg : Rg G ms) (hLT : LT mem sh lv) (hru : Rns mem) (hS : Sr mem G ms) (hVs : Vs mem) (hv : v = 20 ∨ v = 52) (hvf : Ve mem v (v + 1) fv) (hm : v_mom fv < 1000) (hl0 : l0 < 5) :
    ∃ mem' u, j_ex tb (d + 9) m_LT_nextMoment [.ref 4, .ref v, .int (nI l0)] mem (.inl (some (.int (nI u)))) mem' ∧ Hf mem mem' ∧ Vs mem' ∧ u < 1024 ∧
      ((u = 1023 ∧ ∀ r, r ≤ l0 → ∀ t ∈ ms r, gK G t = v_key fv → t ≤ v_mom fv) ∨
      ∃ r, r ≤ l0 ∧ u ∈ ms r ∧ gK G u = v_key fv ∧ v_mom fv < u ∧ (∀ t ∈ ms r, gK G t = v_key fv → v_mom fv < t → u ≤ t) ∧ ∀ r', r < r' → r' ≤ l0 → ∀ t ∈ ms r', gK G t = v_key fv → t ≤ v_mom fv) := by
  obtain ⟨mem', u, h1, h2, h3, h4⟩ := x_LT_next d hLT hru hS.1 hS.2 (Rg_s hG hg) hVs hv hvf hm hl0
  have mo : ∀ r, r < 5 → ∀ j, j < (ms r).length → v_mom (gW G ms r j) = (ms r).getD j 0 := fun r hr j hj => hG _ (by have := Rg_lt hg hr hj; omega)
  have nn : ∀ r, r < 5 → nonaf (cn ms) (gW G ms) r (v_key fv) (v_mom fv) → ∀ t ∈ ms r, gK G t = v_key fv → t ≤ v_mom fv := fun r hr q t ht hk => by
    obtain ⟨i, hi, rfl⟩ := mm_getD ht
    have := q i hi hk
    rwa [mo r hr i hi] at this
  rcases h4 with ⟨q1, q2⟩ | ⟨r, i, q1, ⟨a1, a2, a3, a4⟩, q3, q4⟩
  · exact ⟨mem', u, h1, h2, h3, by omega, Or.inl ⟨q1, fun r e1 => nn r (by omega) (q2 r e1)⟩⟩
  · have e := mo r (by omega) i a1
    have e2 := Rg_lt hg (show r < 5 by omega) a1
    rw [e] at q4
    subst q4
    refine ⟨mem', _, h1, h2, h3, by omega, Or.inr ⟨r, q1, getD_mm a1, a2, by rw [e] at a3; exact a3, fun t ht hk hlt => ?_, fun r' e1 e2 => nn r' (by omega) (q3 r' e1 e2)⟩⟩
    obtain ⟨j, hj, rfl⟩ := mm_getD ht
    have := a4 j hj hk (by rw [mo r (by omega) j hj]; exact hlt)
    unfold v_ord at this
    rw [e, mo r (by omega) j hj, show v_key (gW G ms r j) = v_key fv from hk, a2] at this
    omega
/-! the walk gives a list -/
def Rl (K : Nat → Nat) (ms : Nat → List Nat) (a s : Nat → Nat) (l : List Nat) : Prop := So K l ∧ ∀ t, t ∈ l ↔ ∃ r, r < 5 ∧ ∃ i, a r ≤ i ∧ i < s r ∧ t = (ms r).getD i 0
def Wl (mem : j_M) (G : Nat → Nat → Int64) (ms : Nat → List Nat) (s : Nat → Nat) (un : Int32) (fv : Nat → Int64) (l : List Nat) : Prop :=
  ∃ hn a fn, Wq mem hn un a s fv fn (gW G ms) ∧ (∀ r, r < 5 → a r ≤ s r ∧ s r ≤ (ms r).length) ∧ (l = [] → hn = 0) ∧ ∀ x rest, l = x :: rest → hn = 1 ∧ sw fn (G x) ∧ x < 1023 ∧ Rl (gK G) ms a s rest
theorem Wq_fr {mem mem' : j_M} {hn un : Int32} {a s : Nat → Nat} {fv fn : Nat → Int64} {W : Nat → Nat → Nat → Int64} (h : Wq mem hn un a s fv fn W) (h1 : ∀ c, 48 ≤ c → c < 66 → mem'.2.2 c = mem.2.2 c) (h2 : mem'.2.2 19 = mem.2.2 19) : Wq mem' hn un a s fv fn W := by
  obtain ⟨w1, w2, w3, ⟨Hf, w4, w4'⟩, ⟨Hr, w5, w5'⟩, w6, w7, w8⟩ := h
  refine ⟨by rw [h1 48 (by omega) (by omega)]; exact w1, by rw [h1 49 (by omega) (by omega)]; exact w2, by rw [h1 50 (by omega) (by omega)]; exact w3, ⟨Hf, by rw [h1 51 (by omega) (by omega)]; exact w4, w4'⟩, ⟨Hr, by rw [h2]; exact w5, w5'⟩, ⟨by rw [h1 52 (by omega) (by omega)]; exact w6.1, by rw [h1 53 (by omega) (by omega)]; exact w6.2⟩, ⟨by rw [h1 54 (by omega) (by omega)]; exact w7.1, by rw [h1 55 (by omega) (by omega)]; exact w7.2⟩, fun r hr => ?_⟩
  obtain ⟨f, e1, e2⟩ := w8 r hr
  exact ⟨f, ⟨by rw [h1 _ (by omega) (by omega)]; exact e1.1, by rw [h1 _ (by omega) (by omega)]; exact e1.2⟩, e2⟩
theorem Wl_fr {mem mem' : j_M} {s : Nat → Nat} {un : Int32} {fv : Nat → Int64} {l : List Nat} (h : Wl mem G ms s un fv l) (h1 : ∀ c, 48 ≤ c → c < 66 → mem'.2.2 c = mem.2.2 c) (h2 : mem'.2.2 19 = mem.2.2 19) : Wl mem' G ms s un fv l := by
  obtain ⟨hn, a, fn, q1, q2, q3, q4⟩ := h
  exact ⟨hn, a, fn, Wq_fr q1 h1 h2, q2, q3, q4⟩
theorem Rl_nil {K : Nat → Nat} {a s : Nat → Nat} {l : List Nat} (h : Rl K ms a s l) (h0 : ∀ r, r < 5 → s r ≤ a r) : l = [] := by
  cases l with
  | nil => rfl
  | cons x r =>
    obtain ⟨r, h1, i, h2, h3, h4⟩ := (h.2 x).mp List.mem_cons_self
    have := h0 r h1
    omega
theorem Rl_take {a s : Nat → Nat} {l : List Nat} {r0 : Nat} (hG : Hg G) (hg : Rg G ms) (h : Rl (gK G) ms a s l) (hb : ∀ r, r < 5 → a r ≤ s r ∧ s r ≤ (ms r).length) (hr0 : r0 < 5) (h0 : a r0 < s r0) (hmin : ∀ r, r < 5 → a r < s r → v_ord (gW G ms r0 (a r0)) ≤ v_ord (gW G ms r (a r))) :
    ∃ rest, l = (ms r0).getD (a r0) 0 :: rest ∧ Rl (gK G) ms (va_up a r0 (a r0 + 1)) s rest := by
  have hlen : ∀ r, r < 5 → ∀ i, i < s r → i < (ms r).length := fun r hr i hi => by have := (hb r hr).2; omega
  have ht : ∀ r, r < 5 → ∀ i, i < s r → (ms r).getD i 0 < 1023 := fun r hr i hi => Rg_lt hg hr (hlen r hr i hi)
  have hm : ∀ r, r < 5 → a r < s r → oN (gK G) ((ms r0).getD (a r0) 0) ≤ oN (gK G) ((ms r).getD (a r) 0) := fun r hr q => by
    have := hmin r hr q
    unfold gW at this
    have e1 := ht r0 hr0 _ h0
    have e2 := ht r hr _ q
    rwa [gO hG (by omega), gO hG (by omega)] at this
  have hx : (ms r0).getD (a r0) 0 ∈ l := (h.2 _).mpr ⟨r0, hr0, a r0, Nat.le_refl _, h0, rfl⟩
  cases l with
  | nil => cases hx
  | cons y rest =>
    have hso := List.pairwise_cons.mp h.1
    obtain ⟨r1, g1, i1, g2, g3, g4⟩ := (h.2 y).mp List.mem_cons_self
    have hle : oN (gK G) ((ms r0).getD (a r0) 0) ≤ oN (gK G) y := by
      have q := hm r1 g1 (by omega)
      rcases Nat.lt_or_ge (a r1) i1 with c | c
      · have := So_get (hg.1 r1 g1) c (hlen r1 g1 i1 g3)
        rw [← g4] at this
        omega
      · have e : i1 = a r1 := by omega
        rw [g4, e]
        exact q
    have hyx : (ms r0).getD (a r0) 0 = y := by
      rcases List.mem_cons.mp hx with q | q
      · exact q
      · have := hso.1 _ q
        omega
    refine ⟨rest, by rw [hyx], hso.2, fun t => ?_⟩
    constructor
    · intro q
      obtain ⟨r, b1, i, b2, b3, b4⟩ := (h.2 t).mp (List.mem_cons_of_mem _ q)
      refine ⟨r, b1, i, ?_, b3, b4⟩
      by_cases c : r = r0
      · subst c
        rw [va_up_self]
        rcases Nat.lt_or_ge (a r) i with c | c
        · omega
        · have e : i = a r := by omega
          have := hso.1 t q
          rw [b4, e, hyx] at this
          omega
      · rw [va_up_ne _ _ c]
        exact b2
    · rintro ⟨r, b1, i, b2, b3, b4⟩
      by_cases c : r = r0
      · subst c
        rw [va_up_self] at b2
        have q : t ∈ y :: rest := (h.2 t).mpr ⟨r, b1, i, by omega, b3, b4⟩
        rcases List.mem_cons.mp q with q | q
        · have := So_get (hg.1 r b1) (show a r < i by omega) (hlen r b1 i b3)
          rw [hyx, ← b4, q] at this
          omega
        · exact q
      · rw [va_up_ne _ _ c] at b2
        have q : t ∈ y :: rest := (h.2 t).mpr ⟨r, b1, i, b2, b3, b4⟩
        rcases List.mem_cons.mp q with q | q
        · have e1 : t ∈ ms r := by rw [b4]; exact getD_mm (hlen r b1 i b3)
          have e2 : t ∈ ms r0 := by rw [q, ← hyx]; exact getD_mm (hlen r0 hr0 _ h0)
          exact absurd (age_dj hg.2.2 b1 hr0 e1 e2) c
        · exact q
theorem gh_begin (d : Nat) {mem : j_M} {hn un : Int32} {a s : Nat → Nat} {fv fn : Nat → Int64} {l : List Nat} (hG : Hg G) (hg : Rg G ms) (h : Wq mem hn un a s fv fn (gW G ms)) (hR : Rd mem (cn ms) (gW G ms)) (hb : ∀ r, r < 5 → a r ≤ s r ∧ s r ≤ (ms r).length) (hl : Rl (gK G) ms a s l) :
    ∃ mem', j_ex tb (d + 7) m_Wk_begin [.ref 48] mem (.inl none) mem' ∧ Wf mem mem' ∧ Wl mem' G ms s un fv l := by
  obtain ⟨mem', h1, h2, h3⟩ := x_Wk_begin d h hR (fun r hr => (hb r hr).2) (fun r hr => (hb r hr).1)
  refine ⟨mem', h1, h2, ?_⟩
  rcases h3 with ⟨q1, q2⟩ | ⟨r0, fn', q1, q2, q3, q4, q5⟩
  · have e := Rl_nil hl q1
    subst e
    exact ⟨0, a, fn, q2, hb, fun _ => rfl, fun x r e => by cases e⟩
  · obtain ⟨rest, e1, e2⟩ := Rl_take hG hg hl hb q1 q2 q3
    refine ⟨1, _, fn', q5, fun r hr => ?_, fun e => (by rw [e1] at e; cases e), fun x r e => ?_⟩
    · by_cases c : r = r0
      · subst c
        rw [va_up_self]
        exact ⟨by omega, (hb r hr).2⟩
      · rw [va_up_ne _ _ c]
        exact hb r hr
    · rw [e1] at e
      cases e
      exact ⟨rfl, q4, Rg_lt hg q1 (by have := (hb r0 q1).2; omega), e2⟩
theorem gh_advance (d : Nat) {mem : j_M} {un : Int32} {s : Nat → Nat} {fv : Nat → Int64} {x : Nat} {rest : List Nat} (hG : Hg G) (hg : Rg G ms) (h : Wl mem G ms s un fv (x :: rest)) (hR : Rd mem (cn ms) (gW G ms)) :
    ∃ mem' fv', j_ex tb (d + 7) m_Wk_advance [.ref 48] mem (.inl (some (.int 1))) mem' ∧ Wf mem mem' ∧ sw fv' (G x) ∧ Wl mem' G ms s (nI (unt (gK G) rest x)) fv' rest := by
  obtain ⟨hn, a, fn, q1, hb, -, q4⟩ := h
  obtain ⟨rfl, hsw, hx, hl⟩ := q4 x rest rfl
  obtain ⟨mem', fv', h1, h2, h3, h4⟩ := x_Wk_advance d q1 hR (fun r hr => (hb r hr).2) (fun r hr => (hb r hr).1)
  refine ⟨mem', fv', h1, h2, fun j hj => (h3 j hj).trans (hsw j hj), ?_⟩
  rcases h4 with ⟨g1, g2⟩ | ⟨r0, fn', g1, g2, g3, g4, g5⟩
  · have e := Rl_nil hl g1
    subst e
    exact ⟨0, a, fn, g2, hb, fun _ => rfl, fun x r e => by cases e⟩
  · obtain ⟨rest', e1, e2⟩ := Rl_take hG hg hl hb g1 g2 g3
    have hlt := Rg_lt hg g1 (show a r0 < (ms r0).length by have := (hb r0 g1).2; omega)
    have e3 : (if v_key fn' = v_key fn then v_mom fn' else 1023) = unt (gK G) rest x := by
      rw [e1]
      show _ = if gK G ((ms r0).getD (a r0) 0) = gK G x then (ms r0).getD (a r0) 0 else 1023
      have k1 : v_key fn' = gK G ((ms r0).getD (a r0) 0) := sw_key g4
      have k2 : v_key fn = gK G x := sw_key hsw
      have k3 : v_mom fn' = (ms r0).getD (a r0) 0 := (sw_mom g4).trans (hG _ (by omega))
      rw [k1, k2, k3]
    rw [e3] at g5
    refine ⟨1, _, fn', g5, fun r hr => ?_, fun e => (by rw [e1] at e; cases e), fun x r e => ?_⟩
    · by_cases c : r = r0
      · subst c
        rw [va_up_self]
        exact ⟨by omega, (hb r hr).2⟩
      · rw [va_up_ne _ _ c]
        exact hb r hr
    · rw [e1] at e
      cases e
      exact ⟨rfl, g4, hlt, e2⟩
theorem gh_advance0 (d : Nat) {mem : j_M} {un : Int32} {s : Nat → Nat} {fv : Nat → Int64} (h : Wl mem G ms s un fv []) : j_ex tb (d + 1) m_Wk_advance [.ref 48] mem (.inl (some (.int 0))) mem := by
  obtain ⟨hn, a, fn, q1, -, q3, -⟩ := h
  rw [q3 rfl] at q1
  exact x_Wk_advance0 d q1
/-- a stretch of a run is covered, be it empty or not -/
theorem gh_cover (d : Nat) {mem : j_M} {hn un : Int32} {a s : Nat → Nat} {fv fn : Nat → Int64} {W : Nat → Nat → Nat → Int64} {cnt : Nat → Nat} {r x y : Nat} (h : Wq mem hn un a s fv fn W) (hR : Rd mem cnt W) (hr : r < 5) (hy : y ≤ cnt r) (hx : x < 2 ^ 31) (h0 : a r = 0 ∧ s r = 0) :
    ∃ mem' a' s', j_ex tb (d + 6) m_Wk_cover [.ref 48, .int (nI r), .int (nI x), .int (nI y)] mem (.inl none) mem' ∧ Wf mem mem' ∧ Wq mem' hn un a' s' fv fn W ∧ (∀ r', r' ≠ r → a' r' = a r' ∧ s' r' = s r') ∧ (∀ i, (a' r ≤ i ∧ i < s' r) ↔ (x ≤ i ∧ i < y)) ∧ a' r ≤ s' r ∧ s' r ≤ cnt r := by
  by_cases c : x < y
  · obtain ⟨mem', h1, h2, h3⟩ := x_Wk_cover d h hR hr c hy
    refine ⟨mem', _, _, h1, h2, h3, fun r' q => ⟨va_up_ne _ _ q, va_up_ne _ _ q⟩, fun i => ?_, ?_, ?_⟩
    · rw [va_up_self, va_up_self]
    · rw [va_up_self, va_up_self]
      omega
    · rw [va_up_self]
      exact hy
  · refine ⟨mem, a, s, ex_mono (d + 1) (d + 6) _ _ _ _ _ (by omega) (x_Wk_cover0 d h hr (by omega) hx), Wf_refl mem, h, fun _ _ => ⟨rfl, rfl⟩, fun i => ?_, ?_, ?_⟩
    · rw [h0.1, h0.2]
      omega
    · omega
    · omega
end GHOST
