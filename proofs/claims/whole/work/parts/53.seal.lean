/-! VERSION: addTo; ARRAYS: copyOf of int[]; TABLE: made; WRITER: seal (own text) -/
def vsN (f : Nat → Int64) (s : Int64) : Nat → Int64
  | 0 => s
  | i + 1 => vsN f s i * 31 + f i
def vsum (f : Nat → Int64) (s : Int64) : Int64 := vsN f s 6
theorem x_Ve_addTo (d : Nat) {mem : j_M} {v w : Nat} {f : Nat → Int64} (h : Ve mem v w f) (s : Int64) : j_ex tb (d + 1) m_Ve_addTo [.ref v, .long s] mem (.inl (some (.long (vsum f s)))) mem := by
  have h1 := h.1
  have h2 := h.2
  have loop : ∀ (k i : Nat), i + k = 6 → j_ev (d + 1) (j_ex tb (d + 0)) (j_tab q_Ve_addTo) [] (.inl (some (.long (vsum f s)))) (mem) 5 [some (.ref v), some (.long s), none, some (.long (vsN f s i)), none, some (.int (nI i))] [] mem := by
    intro k
    induction k with
    | zero =>
      intro i hi
      have hi : i = 6 := by omega
      subst hi
      repeat (first | refine ev_go rfl (by rfl) ?_ | refine ev_gf rfl (by assumption) (by rfl) (by rfl) ?_)
      exact j_ev.ret rfl
    | succ k ih =>
      intro i hi
      have k1 := ih (i + 1) (by omega)
      rw [← nI_1 i] at k1
      repeat (first | refine ev_go rfl (by rfl) ?_ | refine ev_gf rfl (by assumption) (by rfl) (by rfl) ?_)
      refine ev_icF rfl (by exact b_nle (a := 6) (b := i) (by omega) (by omega) (by omega)) ?_
      repeat (first | refine ev_go rfl (by rfl) ?_ | refine ev_gf rfl (by assumption) (by rfl) (by rfl) ?_)
      refine ev_aljN (i := i) rfl (by assumption) (by omega) (by omega) ?_
      repeat (first | exact k1 | refine ev_go rfl (by rfl) ?_ | refine ev_gf rfl (by assumption) (by rfl) (by rfl) ?_)
  have k0 := loop 6 0 (by omega)
  refine ⟨e_Ve_addTo, rfl, Nat.le_of_ble_eq_true rfl, ?_⟩
  repeat (first | exact k0 | refine ev_go rfl (by rfl) ?_ | refine ev_gf rfl (by assumption) (by rfl) (by rfl) ?_)
theorem vsum_sw {f g : Nat → Int64} (h : sw f g) (s : Int64) : vsum f s = vsum g s := by
  unfold vsum vsN vsN vsN vsN vsN vsN
  rw [h 0 (by omega), h 1 (by omega), h 2 (by omega), h 3 (by omega), h 4 (by omega), h 5 (by omega)]
  rfl
theorem x_copyOfI (d : Nat) {mem : j_M} {q n n' : Nat} {f : Nat → Int32} (hq : mem.2.2 q = some (.inl (0, n, .inl f))) (h4 : 4 ≤ q) (hm : q ≠ mem.1) (h5 : 4 ≤ mem.1) (hn : n' < n) (hn2 : n < 50000000) :
    j_ex tb (d + 1) m_Ar_copyOf_2aI [.ref q, .int (nI n')] mem (.inl (some (.ref mem.1))) (j_new mem n' (some (.inl (0, n', .inl (va_cpy f (fun _ => 0) 0 0 n'))))) := by
  have hcl : (nI n').toNatClampNeg = n' := nI_clamp (by omega)
  have g1 : (j_new mem n' (some (.inl (0, n', .inl (fun _ => 0))))).2.2 q = some (.inl (0, n, .inl f)) := by rw [nw_ne _ _ _ hm]; exact hq
  have g2 : (j_new mem n' (some (.inl (0, n', .inl (fun _ => 0))))).2.2 mem.1 = some (.inl (0, n', .inl (fun _ => 0))) := nw_same _ _ _
  refine ⟨e_Ar_copyOf_2aI, rfl, Nat.le_of_ble_eq_true rfl, ?_⟩
  repeat (first | refine ev_go rfl (by rfl) ?_ | refine ev_gf rfl (by assumption) (by rfl) (by rfl) ?_)
  refine ev_an rfl (by assumption) (by rfl) ?_
  refine ev_icT rfl (by exact b_ne (a := n') (b := n) (by omega) (by omega) (by omega)) ?_
  repeat (first | refine ev_go rfl (by rfl) ?_ | refine ev_gf rfl (by assumption) (by rfl) (by rfl) ?_)
  refine ev_na rfl (by
    rw [hcl, decide_eq_false (nI_pos (by omega)), Nat.ble_eq.mpr (by omega)]
    rfl) ?_
  rw [hcl]
  refine ev_m (mem' := j_new mem n' (some (.inl (0, n', .inl (fun _ => 0))))) rfl ?_
  repeat (first | refine ev_go rfl (by rfl) ?_ | refine ev_gf rfl (by assumption) (by rfl) (by rfl) ?_)
  refine ev_an rfl g1 (by rfl) ?_
  repeat (first | refine ev_go rfl (by rfl) ?_ | refine ev_gf rfl (by assumption) (by rfl) (by rfl) ?_)
  have hmn := w_min (a := n) (b := n') (by omega) (by omega)
  rw [if_pos (show n' < n by omega)] at hmn
  refine ev_s (st' := [.int (nI n'), .int (nI 0), .ref mem.1, .int (nI 0), .ref q]) (congrArg (fun z => [Value.int z, .int (nI 0), .ref mem.1, .int (nI 0), .ref q]) hmn) ?_
  refine ev_cpi rfl g1 g2 (j_cpk_ok (by omega) (by omega) (by omega) (by omega) (by omega) h4 h5 (by decide)) ?_
  rw [nI_clamp (by omega), nI_clamp (by omega), nw_st]
  repeat (first | refine ev_go rfl (by rfl) ?_ | refine ev_gf rfl (by assumption) (by rfl) (by rfl) ?_)
  exact j_ev.ret rfl
theorem x_Tb_init (d : Nat) {mem : j_M} {t q n : Nat} {s : Int64} (h : mem.2.2 t = some (.inr (9, [.int 0, .null, .int 0, .long 0]))) : j_ex tb (d + 1) m_Tb_init [.ref t, .ref q, .int (nI n), .long s] mem (.inl none) (j_set mem t (.inr (9, [.int 0, .ref q, .int (nI n), .long s]))) := by
  refine ⟨e_Tb_init, rfl, Nat.le_of_ble_eq_true rfl, ?_⟩
  repeat (first | refine ev_go rfl (by rfl) ?_ | refine ev_gf rfl (by assumption) (by rfl) (by rfl) ?_)
  refine ev_pf rfl (by assumption) (by rfl) (by rfl) (by rfl) ?_
  repeat (first | refine ev_go rfl (by rfl) ?_ | refine ev_gf rfl (by assumption) (by rfl) (by rfl) ?_)
  refine ev_pf rfl (st_same _ _ _) (by rfl) (by rfl) (by rfl) ?_
  rw [st_st]
  repeat (first | refine ev_go rfl (by rfl) ?_ | refine ev_gf rfl (by assumption) (by rfl) (by rfl) ?_)
  refine ev_pf rfl (st_same _ _ _) (by rfl) (by rfl) (by rfl) ?_
  rw [st_st]
  exact j_ev.ret rfl
/-- the writer: how many versions of the table that is being written, their sum, its blocks -/
def Wp (mem : j_M) (k : Nat) (sm : Int64) (bs : List Nat) : Prop :=
  mem.2.2 66 = some (.inr (7, [.int (nI k), .long sm, .ref 9, .ref 67, .ref 68])) ∧ bs.length = (k + 7) / 8 ∧ ∃ bf : Nat → Int32, mem.2.2 68 = some (.inl (0, 63, .inl bf)) ∧ ∀ i, i < bs.length → bf i = nI (bs.getD i 0)
theorem x_Wr_seal0 (d : Nat) {mem : j_M} {sm : Int64} {bs : List Nat} (h : Wp mem 0 sm bs) : j_ex tb (d + 1) m_Wr_seal [.ref 66] mem (.inl none) (j_set mem 66 (.inr (7, [.int 0, .long 0, .ref 9, .ref 67, .ref 68]))) := by
  have h1 := h.1
  refine ⟨e_Wr_seal, rfl, Nat.le_of_ble_eq_true rfl, ?_⟩
  repeat (first | refine ev_go rfl (by rfl) ?_ | refine ev_gf rfl (by assumption) (by rfl) (by rfl) ?_)
  refine ev_pf rfl (by assumption) (by rfl) (by rfl) (by rfl) ?_
  repeat (first | refine ev_go rfl (by rfl) ?_ | refine ev_gf rfl (by assumption) (by rfl) (by rfl) ?_)
  rw [st_st]
  exact j_ev.ret rfl
theorem x_Wr_seal (d : Nat) {mem : j_M} {k e cap : Nat} {sm : Int64} {bs : List Nat} {fs : List TR} (h : Wp mem k sm bs) (hk : 1 ≤ k ∧ k ≤ 400) (hA : Al mem 67 e cap (fs.map (fun τ => τ.1))) (hE : Ale mem e cap) (hT : Tbs mem (fs.map (fun τ => τ.1))) (h78 : 78 ≤ mem.1) (hc : cap < 2 ^ 20) :
    ∃ e' cap' mem', j_ex tb (d + 7) m_Wr_seal [.ref 66] mem (.inl none) mem' ∧ Wp mem' 0 0 [] ∧ Al mem' 67 e' cap' ((fs ++ [(mem.1, mem.1 + 1, bs, k, sm)]).map (fun τ => τ.1)) ∧ Ale mem' e' cap' ∧ TbX mem' (mem.1, mem.1 + 1, bs, k, sm) 0 ∧
      (cap ≤ cap' ∧ mem.1 + 2 ≤ mem'.1 ∧ mem.2.1 ≤ mem'.2.1 ∧ mem'.1 + cap ≤ mem.1 + 2 + cap' ∧ mem'.2.1 + cap * cap ≤ mem.2.1 + 4 + (k + 7) / 8 + cap' * cap') ∧ (cap' = cap ∨ cap' ≤ 2 * fs.length + 10) ∧ ((e' = e ∧ cap' = cap) ∨ mem.1 + 2 ≤ e') ∧ ∀ c, c < mem.1 → c ≠ 66 → c ≠ 67 → (c ≠ e ∨ c = 2) → mem'.2.2 c = mem.2.2 c := by
  obtain ⟨h1, h2, bf, h3, h4⟩ := h
  have eb : e = 2 ∨ 78 ≤ e ∧ e < mem.1 := by
    by_cases c : cap = 0
    · exact Or.inl (hE.1 c)
    · exact Or.inr (hE.2 c)
  obtain ⟨md, E, a1, a2, a3, a4⟩ := hA
  -- the new table
  generalize hm1 : j_new mem 4 (some (.inr (9, [.int 0, .null, .int 0, .long 0]))) = m1
  have f1 : ∀ c, c ≠ mem.1 → m1.2.2 c = mem.2.2 c := fun c hc => by rw [← hm1]; exact nw_ne _ _ _ hc
  have m1a : m1.1 = mem.1 + 1 := by rw [← hm1]; rfl
  have m1b : m1.2.1 = mem.2.1 + 4 := by rw [← hm1]; rfl
  have m1t : m1.2.2 mem.1 = some (.inr (9, [.int 0, .null, .int 0, .long 0])) := by rw [← hm1]; exact nw_same _ _ _
  have kc := x_copyOfI (d + 5) (mem := m1) (q := 68) (n := 63) (n' := (k + 7) / 8) (f := bf) (by rw [f1 _ (by omega)]; exact h3) (by omega) (by omega) (by omega) (by omega) (by omega)
  rw [m1a] at kc
  generalize hm2 : j_new m1 ((k + 7) / 8) (some (.inl (0, (k + 7) / 8, .inl (va_cpy bf (fun _ => 0) 0 0 ((k + 7) / 8))))) = m2 at kc
  have f2 : ∀ c, c ≠ mem.1 → c ≠ mem.1 + 1 → m2.2.2 c = mem.2.2 c := fun c c1 c2 => by rw [← hm2, nw_ne _ _ _ (by omega)]; exact f1 c c1
  have m2a : m2.1 = mem.1 + 2 := by rw [← hm2]; show m1.1 + 1 = _; omega
  have m2b : m2.2.1 = mem.2.1 + 4 + (k + 7) / 8 := by rw [← hm2]; show m1.2.1 + _ = _; omega
  have m2t : m2.2.2 mem.1 = some (.inr (9, [.int 0, .null, .int 0, .long 0])) := by rw [← hm2, nw_ne _ _ _ (by omega)]; exact m1t
  have m2q : m2.2.2 (mem.1 + 1) = some (.inl (0, (k + 7) / 8, .inl (va_cpy bf (fun _ => 0) 0 0 ((k + 7) / 8)))) := by rw [← hm2, ← m1a]; exact nw_same _ _ _
  have ki := x_Tb_init (d + 5) (mem := m2) (t := mem.1) (q := mem.1 + 1) (n := k) (s := sm) m2t
  generalize hm3 : j_set m2 mem.1 (.inr (9, [.int 0, .ref (mem.1 + 1), .int (nI k), .long sm])) = m3 at ki
  have f3 : ∀ c, c ≠ mem.1 → c ≠ mem.1 + 1 → m3.2.2 c = mem.2.2 c := fun c c1 c2 => by rw [← hm3, st_ne _ _ c1]; exact f2 c c1 c2
  have m3a : m3.1 = mem.1 + 2 := by rw [← hm3]; exact m2a
  have m3b : m3.2.1 = mem.2.1 + 4 + (k + 7) / 8 := by rw [← hm3]; exact m2b
  have hX3 : TbX m3 (mem.1, mem.1 + 1, bs, k, sm) 0 := by
    refine ⟨by rw [← hm3]; exact st_same _ _ _, va_cpy bf (fun _ => 0) 0 0 ((k + 7) / 8), ?_, fun i hi => ?_⟩
    · rw [← hm3, st_ne _ _ (by show mem.1 + 1 ≠ mem.1; omega)]
      show m2.2.2 (mem.1 + 1) = some (.inl (0, bs.length, _))
      rw [h2]
      exact m2q
    · change i < bs.length at hi
      rw [pk_cpy_in (by omega) (by omega), show 0 + (i - 0) = i by omega]
      exact h4 i hi
  have hA3 : Al m3 67 e cap (fs.map (fun τ => τ.1)) := ⟨md, E, by rw [f3 _ (by omega) (by omega)]; exact a1, by rw [f3 _ (by omega) (by omega)]; exact a2, a3, a4⟩
  have hE3 : Ale m3 e cap := ⟨hE.1, fun c => by have := hE.2 c; omega⟩
  have hT3 : Tbs m3 (fs.map (fun τ => τ.1)) := fun y hy => by
    obtain ⟨q1, q2, fs', q3⟩ := hT y hy
    exact ⟨q1, by omega, fs', by rw [f3 _ (by omega) (by omega)]; exact q3⟩
  obtain ⟨e', cap', m4, r1, r2, r3, r4⟩ := x_AL_add1 d (t := mem.1) hA3 hE3 hT3 (by omega) (by omega) hc (fun y hy => by
    rw [List.mem_singleton] at hy
    subst hy
    exact ⟨by omega, by omega, _, hX3.1⟩) (by omega) (by omega) (by omega)
  rw [List.length_map] at r4
  have hG := Gr_of r4
  have e'b : (e' = e ∧ cap' = cap ∧ 78 ≤ e') ∨ e' = m3.1 := by
    rcases r4.2 with ⟨q1, q2, q3, _⟩ | ⟨_, q2, _⟩
    · have := hE.2 (by omega)
      exact Or.inl ⟨q1, q2, by omega⟩
    · exact Or.inr q2
  have f4 : ∀ c, c ≠ mem.1 → c ≠ mem.1 + 1 → c ≠ 67 → c ≠ e' → m4.2.2 c = mem.2.2 c := fun c c1 c2 c3 c4 => by rw [r4.1 c c3 c4]; exact f3 c c1 c2
  have l4 : m4.2.2 66 = some (.inr (7, [.int (nI k), .long sm, .ref 9, .ref 67, .ref 68])) := by rw [f4 _ (by omega) (by omega) (by omega) (by omega)]; exact h1
  refine ⟨e', cap', j_set m4 66 (.inr (7, [.int 0, .long 0, .ref 9, .ref 67, .ref 68])), ?_, ⟨st_same _ _ _, rfl, bf, ?_, fun i hi => by cases hi⟩, ?_, ?_, ?_, ?_, ?_, ?_, ?_⟩
  · have g1 : m1.2.2 66 = some (.inr (7, [.int (nI k), .long sm, .ref 9, .ref 67, .ref 68])) := by rw [f1 _ (by omega)]; exact h1
    have g2 : m2.2.2 66 = some (.inr (7, [.int (nI k), .long sm, .ref 9, .ref 67, .ref 68])) := by rw [f2 _ (by omega) (by omega)]; exact h1
    have g3 : m3.2.2 67 = some (.inr (10, [.int md, .ref e, .int (nI (fs.map (fun τ => τ.1)).length)])) := by rw [f3 _ (by omega) (by omega)]; exact a1
    have ek : (nI k + 8 - 1) / 8 = nI ((k + 7) / 8) := by
      rw [show nI k + 8 = nI (k + 8) from nI_add k 8, show nI (k + 8) - 1 = nI (k + 7) from nI_pred (k + 7)]
      exact pk_div (d := 8) (by omega) (by omega) (by omega)
    rw [← ek] at kc
    refine ⟨e_Wr_seal, rfl, Nat.le_of_ble_eq_true rfl, ?_⟩
    repeat (first | refine ev_go rfl (by rfl) ?_ | refine ev_gf rfl (by assumption) (by rfl) (by rfl) ?_)
    refine ev_ifF rfl (by exact b_nle (a := k) (b := 0) (by omega) (by omega) (by omega)) ?_
    repeat (first | refine ev_go rfl (by rfl) ?_ | refine ev_gf rfl (by assumption) (by rfl) (by rfl) ?_)
    refine ev_m hm1 ?_
    repeat (first | refine ev_go rfl (by rfl) ?_ | refine ev_gf rfl (by assumption) (by rfl) (by rfl) ?_)
    refine j_ev.call rfl (kc) ?_
    repeat (first | refine ev_go rfl (by rfl) ?_ | refine ev_gf rfl (by assumption) (by rfl) (by rfl) ?_)
    refine j_ev.call rfl (ki) ?_
    refine ev_cv (as := [.ref mem.1]) rfl rfl rfl (by assumption) (by rfl) (by rfl) (r1) ?_
    repeat (first | refine ev_go rfl (by rfl) ?_ | refine ev_gf rfl (by assumption) (by rfl) (by rfl) ?_)
    refine ev_pf rfl (by assumption) (by rfl) (by rfl) (by rfl) ?_
    repeat (first | refine ev_go rfl (by rfl) ?_ | refine ev_gf rfl (by assumption) (by rfl) (by rfl) ?_)
    rw [st_st]
    exact j_ev.ret rfl
  · rw [st_ne _ _ (by omega), f4 _ (by omega) (by omega) (by omega) (by omega)]; exact h3
  · obtain ⟨md', E', b1, b2, b3, b4⟩ := r2
    rw [List.map_append]
    exact ⟨md', E', by rw [st_ne _ _ (by omega)]; exact b1, by rw [st_ne _ _ (by omega)]; exact b2, b3, b4⟩
  · exact r3
  · refine TbX_fr hX3 ?_ ?_
    · rw [st_ne _ _ (by show mem.1 ≠ 66; omega)]
      exact r4.1 _ (by show mem.1 ≠ 67; omega) (by show mem.1 ≠ e'; omega)
    · rw [st_ne _ _ (by show mem.1 + 1 ≠ 66; omega)]
      exact r4.1 _ (by show mem.1 + 1 ≠ 67; omega) (by show mem.1 + 1 ≠ e'; omega)
  · obtain ⟨g1, g2, g3, g4, g5⟩ := hG
    refine ⟨g1, ?_, ?_, ?_, ?_⟩
    · show mem.1 + 2 ≤ m4.1; omega
    · show mem.2.1 ≤ m4.2.1; omega
    · show m4.1 + cap ≤ _; omega
    · show m4.2.1 + cap * cap ≤ _; omega
  · rcases r4.2 with ⟨_, q2, _⟩ | ⟨q1, _, _, q4, _⟩
    · exact Or.inl q2
    · exact Or.inr (by omega)
  · rcases e'b with ⟨q1, q2, _⟩ | q1
    · exact Or.inl ⟨q1, q2⟩
    · exact Or.inr (by omega)
  · intro c c0 c1 c2 c3
    rw [st_ne _ _ c1]
    exact f4 c (by omega) (by omega) c2 (by omega)
