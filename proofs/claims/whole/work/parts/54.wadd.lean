/-! WRITER: add, begin, tables (own text) -/
theorem Rw_set {mem : j_M} {B : Nat → Option Nat} {D : Nat → Nat → Int64} {a b : Nat} (h : Rw mem B D) (hB : B b = some a) (g : Nat → Int64) : Rw (j_set mem a (.inl (1, 48, .inr (.inl g)))) B (va_up D b g) := by
  refine ⟨fun b' a' hB' => ?_, h.2⟩
  obtain ⟨q1, q2, q3⟩ := h.1 b' a' hB'
  refine ⟨q1, q2, ?_⟩
  by_cases c : b' = b
  · subst c
    rw [hB] at hB'
    cases hB'
    rw [va_up_self]
    exact st_same _ _ _
  · rw [va_up_ne _ _ c, st_ne _ _ (fun z => c (h.2 b' b a' hB' (by rw [z]; exact hB)))]
    exact q3
section WADD
variable {mem : j_M} {k : Nat} {sm : Int64} {bs : List Nat} {B : Nat → Option Nat} {Wn T U : Nat → Int32} {D : Nat → Nat → Int64}
theorem x_Wr_tables (d : Nat) (h : Wp mem k sm bs) : j_ex tb (d + 1) m_Wr_tables [.ref 66] mem (.inl (some (.ref 67))) mem := by
  have h1 := h.1
  refine ⟨e_Wr_tables, rfl, Nat.le_of_ble_eq_true rfl, ?_⟩
  repeat (first | refine ev_go rfl (by rfl) ?_ | refine ev_gf rfl (by assumption) (by rfl) (by rfl) ?_)
  exact j_ev.ret rfl
theorem x_Wr_begin (d : Nat) {e cap : Nat} {xs : List Nat} (h : Wp mem k sm bs) (hA : Al mem 67 e cap xs) (hE : Ale mem e cap) (hc : cap < 2 ^ 20) :
    ∃ mem', j_ex tb (d + 2) m_Wr_begin [.ref 66] mem (.inl none) mem' ∧ Al mem' 67 e cap [] ∧ mem'.1 = mem.1 ∧ mem'.2.1 = mem.2.1 ∧ ∀ c, c ≠ 67 → (c ≠ e ∨ c = 2) → mem'.2.2 c = mem.2.2 c := by
  have h1 := h.1
  obtain ⟨md, E, a1, a2, a3, a4⟩ := hA
  have eb : e = 2 ∨ 78 ≤ e := by
    by_cases c : cap = 0
    · exact Or.inl (hE.1 c)
    · exact Or.inr (hE.2 c).1
  obtain ⟨mem', z1, z2, z3, z4, z5⟩ := x_AL_clear d ⟨md, E, a1, a2, a3, a4⟩ (fun q => by have := hE.2 (by omega); omega) hc (by omega)
  have run : j_ex tb (d + 2) m_Wr_begin [.ref 66] mem (.inl none) mem' := by
    refine ⟨e_Wr_begin, rfl, Nat.le_of_ble_eq_true rfl, ?_⟩
    repeat (first | refine ev_go rfl (by rfl) ?_ | refine ev_gf rfl (by assumption) (by rfl) (by rfl) ?_)
    refine ev_cv (as := []) rfl rfl rfl (by assumption) (by rfl) (by rfl) (z1) ?_
    exact j_ev.ret rfl
  refine ⟨mem', run, z2, z3, z4, fun c c1 c3 => z5 c c1 ?_⟩
  rcases c3 with q | q
  · exact Or.inl q
  · by_cases c2 : e = 2
    · refine Or.inr ?_
      rcases Nat.eq_zero_or_pos cap with q | q
      · omega
      · have := (hE.2 (by omega)).1; omega
    · exact Or.inl (by omega)
theorem x_Wr_end (d : Nat) {v w b a nth p q : Nat} {g : Nat → Int64} {bf : Nat → Int32} {z x : Option Value} (h1 : mem.2.2 66 = some (.inr (7, [.int (nI k), .long sm, .ref 9, .ref 67, .ref 68]))) (h2 : mem.2.2 68 = some (.inl (0, 63, .inl bf))) (hn : nth < 63) (hbf : bf nth = nI b) (hC : Cp mem B Wn T U) (hR : Rw mem B D) (hb : b < 1000) (hB : B b = some a) (hp : p + 6 ≤ 48) (hW : Wn b = nI q) (hq : q ≤ p) (hv : Ve mem v w g) (hvr : v < 66 ∧ w < 66 ∧ 14 ≤ v ∧ 14 ≤ w) :
    j_ev (d + 8) (j_ex tb (d + 7)) (j_tab q_Wr_add) [] (.inl none) (j_set (j_set (j_set mem a (.inl (1, 48, .inr (.inl (va_cpy g (D b) 0 p 6))))) 11 (.inl (0, 1000, .inl (upd Wn b (nI (p + 6)))))) 66 (.inr (7, [.int (nI (k + 1)), .long (vsum g sm), .ref 9, .ref 67, .ref 68]))) 64 [some (.ref 66), some (.ref v), z, some (.int (nI nth)), some (.int (nI p))] [] mem := by
  have h9 := hC.1
  have h78 := (hR.1 b a hB).1
  have kw := x_Ch_write (d + 5) hC hR hb hB hp hW hq hv (by omega)
  generalize hm3 : j_set (j_set mem a (.inl (1, 48, .inr (.inl (va_cpy g (D b) 0 p 6))))) 11 (.inl (0, 1000, .inl (upd Wn b (nI (p + 6))))) = m3 at *
  have f3 : ∀ c, c ≠ a → c ≠ 11 → m3.2.2 c = mem.2.2 c := fun c c1 c2 => by rw [← hm3, st_ne _ _ c2, st_ne _ _ c1]
  have g1 : m3.2.2 66 = some (.inr (7, [.int (nI k), .long sm, .ref 9, .ref 67, .ref 68])) := by rw [f3 _ (by omega) (by omega)]; exact h1
  have hv3 : Ve m3 v w g := ⟨by rw [f3 _ (by omega) (by omega)]; exact hv.1, by rw [f3 _ (by omega) (by omega)]; exact hv.2⟩
  have hv31 := hv3.1
  have ka := x_Ve_addTo (d + 6) hv3 sm
  rw [← nI_1 k]
  repeat (first | refine ev_go rfl (by rfl) ?_ | refine ev_gf rfl (by assumption) (by rfl) (by rfl) ?_)
  refine ev_aliN (i := nth) rfl (by assumption) (by omega) (by omega) ?_
  rw [hbf]
  repeat (first | refine ev_go rfl (by rfl) ?_ | refine ev_gf rfl (by assumption) (by rfl) (by rfl) ?_)
  refine ev_cv (as := [.int (nI b), .int (nI p), .ref v]) rfl rfl rfl (by assumption) (by rfl) (by rfl) (kw) ?_
  repeat (first | refine ev_go rfl (by rfl) ?_ | refine ev_gf rfl (by assumption) (by rfl) (by rfl) ?_)
  refine ev_cv (as := [.long sm]) rfl rfl rfl (by assumption) (by rfl) (by rfl) (ka) ?_
  refine ev_pf rfl (by assumption) (by rfl) (by rfl) (by rfl) ?_
  repeat (first | refine ev_go rfl (by rfl) ?_ | refine ev_gf rfl (by assumption) (by rfl) (by rfl) ?_)
  rw [st_st]
  exact j_ev.ret rfl
/-- writer and chip -/
def WS (mem : j_M) (k : Nat) (sm : Int64) (bs : List Nat) (B : Nat → Option Nat) (Wn T U : Nat → Int32) (D : Nat → Nat → Int64) : Prop := Wp mem k sm bs ∧ Cp mem B Wn T U ∧ Rw mem B D
theorem x_Wr_tailA (d : Nat) {v w b : Nat} {g : Nat → Int64} (h : WS mem k sm bs B Wn T U D) (hk : k % 8 = 0 ∧ k ≤ 400) (h78 : 78 ≤ mem.1) (hb : b < 1000) (hT : T b = 0) (hlt : ∀ i, i < b → ¬ T i = 0) (hv : Ve mem v w g) (hvr : v < 66 ∧ w < 66 ∧ 14 ≤ v ∧ 14 ≤ w) :
    ∃ a mem' D', (∀ (z : Int32) x3 x4, j_ev (d + 8) (j_ex tb (d + 7)) (j_tab q_Wr_add) [] (.inl none) (mem') 17 [some (.ref 66), some (.ref v), some (.int z), x3, x4] [] mem) ∧ WS mem' (k + 1) (vsum g sm) (bs ++ [b]) (va_up B b (some a)) (upd (upd Wn b 0) b (nI 6)) (upd T b 1) U D' ∧ (∀ x, x ≠ b → D' x = D x) ∧ (∀ j, j < 6 → D' b j = g j) ∧ 78 ≤ a ∧ (∀ c, c ≠ 10 → c ≠ 11 → c ≠ 12 → c ≠ 66 → c ≠ 68 → c ≠ a → mem'.2.2 c = mem.2.2 c) ∧ ((B b = some a ∧ mem'.1 = mem.1 ∧ mem'.2.1 = mem.2.1) ∨ (B b = none ∧ a = mem.1 ∧ mem'.1 = mem.1 + 1 ∧ mem'.2.1 = mem.2.1 + 48)) := by
  obtain ⟨⟨h1, h2, bf, h3, h4⟩, hC, hR⟩ := h
  obtain ⟨a, m1, D1, t1, t2, t3, t4, t5, t6, t7⟩ := x_Ch_take (d + 4) hC hR h78 hb hT hlt
  have g68 : m1.2.2 68 = some (.inl (0, 63, .inl bf)) := by
    rw [t5 _ (by omega) (by omega) (by omega) (by omega)]; exact h3
  have g66 : m1.2.2 66 = some (.inr (7, [.int (nI k), .long sm, .ref 9, .ref 67, .ref 68])) := by
    rw [t5 _ (by omega) (by omega) (by omega) (by omega)]; exact h1
  generalize hm2 : j_set m1 68 (.inl (0, 63, .inl (upd bf (k / 8) (nI b)))) = m2
  have f2 : ∀ c, c ≠ 68 → m2.2.2 c = m1.2.2 c := fun c c1 => by rw [← hm2]; exact st_ne _ _ c1
  have m2a : m2.1 = m1.1 ∧ m2.2.1 = m1.2.1 := by rw [← hm2]; exact ⟨rfl, rfl⟩
  have i66 : m2.2.2 66 = some (.inr (7, [.int (nI k), .long sm, .ref 9, .ref 67, .ref 68])) := by rw [f2 _ (by omega)]; exact g66
  have i68 : m2.2.2 68 = some (.inl (0, 63, .inl (upd bf (k / 8) (nI b)))) := by rw [← hm2]; exact st_same _ _ _
  have hC2 : Cp m2 (va_up B b (some a)) (upd Wn b 0) (upd T b 1) U := ⟨by rw [f2 _ (by omega)]; exact t2.1, by rw [f2 _ (by omega)]; exact t2.2.1, by rw [f2 _ (by omega)]; exact t2.2.2.1, by rw [f2 _ (by omega)]; exact t2.2.2.2.1, by rw [f2 _ (by omega)]; exact t2.2.2.2.2⟩
  have hR2 : Rw m2 (va_up B b (some a)) D1 := Rw_fr t3 (by omega) (fun c c1 _ => f2 c (by omega))
  have hv2 : Ve m2 v w g := ⟨by rw [f2 _ (by omega), t5 _ (by omega) (by omega) (by omega) (by omega)]; exact hv.1, by rw [f2 _ (by omega), t5 _ (by omega) (by omega) (by omega) (by omega)]; exact hv.2⟩
  refine ⟨a, j_set (j_set (j_set m2 a (.inl (1, 48, .inr (.inl (va_cpy g (D1 b) 0 0 6))))) 11 (.inl (0, 1000, .inl (upd (upd Wn b 0) b (nI (0 + 6)))))) 66 (.inr (7, [.int (nI (k + 1)), .long (vsum g sm), .ref 9, .ref 67, .ref 68])), va_up D1 b (va_cpy g (D1 b) 0 0 6), fun z x3 x4 => ?_, ⟨⟨st_same _ _ _, ?_, upd bf (k / 8) (nI b), ?_, fun i hi => ?_⟩, ⟨?_, ?_, ?_, ?_, ?_⟩, ?_⟩, fun x hx => ?_, fun j hj => ?_, t6, fun c c1 c2 c3 c4 c5 c6 => ?_, ?_⟩
  · have ke := x_Wr_end d (z := some (.int z)) (x := x3) (nth := k / 8) (p := 0) (q := 0) (bf := upd bf (k / 8) (nI b)) i66 i68 (by omega) pk_us hC2 hR2 hb (va_up_self _ _ _) (by omega) pk_us (by omega) hv2 hvr
    have e1 : nI k / 8 = nI (k / 8) := pk_div (d := 8) (by omega) (by omega) (by omega)
    have e2 : (nI k - nI k / 8 * 8) * 6 = nI 0 := by
      rw [show nI k - nI k / 8 * 8 = nI (k % 8) from pk_rem (d := 8) (by omega) (by omega) (by omega), hk.1]
      rfl
    have c9 := hC.1
    repeat (first | refine ev_go rfl (by rfl) ?_ | refine ev_gf rfl (by assumption) (by rfl) (by rfl) ?_)
    refine ev_an rfl h3 (by rfl) ?_
    refine ev_s (st' := [.int (nI 63), .int (nI (k / 8))]) (by rw [← e1]; rfl) ?_
    refine ev_icF rfl (by exact b_nle (a := 63) (b := k / 8) (by omega) (by omega) (by omega)) ?_
    repeat (first | refine ev_go rfl (by rfl) ?_ | refine ev_gf rfl (by assumption) (by rfl) (by rfl) ?_)
    refine ev_s (st' := [.int (nI 0)]) (congrArg (fun y => [Value.int y]) e2) ?_
    refine ev_ifF rfl (by exact b_nne (a := 0) (b := 0) (by omega) (by omega) (by omega)) ?_
    repeat (first | refine ev_go rfl (by rfl) ?_ | refine ev_gf rfl (by assumption) (by rfl) (by rfl) ?_)
    refine ev_cv (as := []) rfl rfl rfl (by assumption) (by rfl) (by rfl) (t1) ?_
    refine ev_s (st' := [.int (nI b), .int (nI (k / 8)), .ref 68]) (by rw [← e1]; rfl) ?_
    refine ev_aiN (i := k / 8) rfl g68 (by omega) (by omega) (by omega) ?_
    refine ev_m hm2 ?_
    refine ev_l (lc' := [some (.ref 66), some (.ref v), some (.int z), some (.int (nI (k / 8))), some (.int (nI 0))]) (by
      have q := congr (congrArg (fun (y y' : Int32) => ([some (Value.ref 66), some (.ref v), some (.int z), some (.int y), some (.int y')] : j_L)) e1) e2
      exact q) ?_
    exact ke
  · rw [List.length_append, h2]
    show (k + 7) / 8 + 1 = _
    omega
  · rw [st_ne _ _ (by omega), st_ne _ _ (by omega), st_ne _ _ (by omega)]; exact i68
  · rw [List.length_append] at hi
    change i < bs.length + 1 at hi
    rw [getD_app hi]
    by_cases c : i < bs.length
    · rw [if_pos c, pk_un (by omega)]; exact h4 i c
    · rw [if_neg c, show i = k / 8 by omega, pk_us]
  · rw [st_ne _ _ (by omega), st_ne _ _ (by omega), st_ne _ _ (by omega)]; exact hC2.1
  · rw [st_ne _ _ (by omega), st_ne _ _ (by omega), st_ne _ _ (by omega)]; exact hC2.2.1
  · rw [st_ne _ _ (by omega)]; exact st_same _ _ _
  · rw [st_ne _ _ (by omega), st_ne _ _ (by omega), st_ne _ _ (by omega)]; exact hC2.2.2.2.1
  · rw [st_ne _ _ (by omega), st_ne _ _ (by omega), st_ne _ _ (by omega)]; exact hC2.2.2.2.2
  · exact Rw_fr (Rw_set hR2 (va_up_self _ _ _) _) (Nat.le_refl _) (fun c c1 _ => by rw [st_ne _ _ (by omega), st_ne _ _ (by omega)])
  · rw [va_up_ne _ _ hx]; exact t4 x hx
  · rw [va_up_self]; exact v_cpy hj
  · rw [st_ne _ _ c4, st_ne _ _ c2, st_ne _ _ c6, f2 _ c5]
    exact t5 c c1 c2 c3 c6
  · rcases t7 with ⟨q1, q2, q3⟩ | ⟨q1, q2, q3, q4⟩
    · exact Or.inl ⟨q1, by show m2.1 = _; omega, by show m2.2.1 = _; omega⟩
    · exact Or.inr ⟨q1, q2, by show m2.1 = _; omega, by show m2.2.1 = _; omega⟩
theorem x_Wr_tailB (d : Nat) {v w a : Nat} {g : Nat → Int64} (h : WS mem k sm bs B Wn T U D) (hk : k % 8 ≠ 0 ∧ k ≤ 400) (hb : bs.getD (k / 8) 0 < 1000) (hB : B (bs.getD (k / 8) 0) = some a) (hW : Wn (bs.getD (k / 8) 0) = nI (k % 8 * 6)) (hv : Ve mem v w g) (hvr : v < 66 ∧ w < 66 ∧ 14 ≤ v ∧ 14 ≤ w) :
    ∃ mem', (∀ (z : Int32) x3 x4, j_ev (d + 8) (j_ex tb (d + 7)) (j_tab q_Wr_add) [] (.inl none) (mem') 17 [some (.ref 66), some (.ref v), some (.int z), x3, x4] [] mem) ∧ WS mem' (k + 1) (vsum g sm) bs B (upd Wn (bs.getD (k / 8) 0) (nI (k % 8 * 6 + 6))) T U (va_up D (bs.getD (k / 8) 0) (va_cpy g (D (bs.getD (k / 8) 0)) 0 (k % 8 * 6) 6)) ∧ (∀ c, c ≠ 11 → c ≠ 66 → c ≠ a → mem'.2.2 c = mem.2.2 c) ∧ mem'.1 = mem.1 ∧ mem'.2.1 = mem.2.1 := by
  obtain ⟨⟨h1, h2, bf, h3, h4⟩, hC, hR⟩ := h
  have h78 := (hR.1 _ a hB).1
  have hkl : k / 8 < bs.length := by omega
  have hbk := h4 (k / 8) hkl
  refine ⟨j_set (j_set (j_set mem a (.inl (1, 48, .inr (.inl (va_cpy g (D (bs.getD (k / 8) 0)) 0 (k % 8 * 6) 6))))) 11 (.inl (0, 1000, .inl (upd Wn (bs.getD (k / 8) 0) (nI (k % 8 * 6 + 6)))))) 66 (.inr (7, [.int (nI (k + 1)), .long (vsum g sm), .ref 9, .ref 67, .ref 68])), fun z x3 x4 => ?_, ⟨⟨st_same _ _ _, ?_, bf, ?_, h4⟩, ⟨?_, ?_, ?_, ?_, ?_⟩, ?_⟩, fun c c1 c2 c3 => ?_, rfl, rfl⟩
  · have ke := x_Wr_end d (z := some (.int z)) (x := x3) (nth := k / 8) (p := k % 8 * 6) (q := k % 8 * 6) (bf := bf) h1 h3 (by omega) hbk hC hR hb hB (by omega) hW (by omega) hv hvr
    have e1 : nI k / 8 = nI (k / 8) := pk_div (d := 8) (by omega) (by omega) (by omega)
    have e2 : (nI k - nI k / 8 * 8) * 6 = nI (k % 8 * 6) := by
      rw [show nI k - nI k / 8 * 8 = nI (k % 8) from pk_rem (d := 8) (by omega) (by omega) (by omega)]
      exact pk_mul _ 6
    repeat (first | refine ev_go rfl (by rfl) ?_ | refine ev_gf rfl (by assumption) (by rfl) (by rfl) ?_)
    refine ev_an rfl h3 (by rfl) ?_
    refine ev_s (st' := [.int (nI 63), .int (nI (k / 8))]) (by rw [← e1]; rfl) ?_
    refine ev_icF rfl (by exact b_nle (a := 63) (b := k / 8) (by omega) (by omega) (by omega)) ?_
    repeat (first | refine ev_go rfl (by rfl) ?_ | refine ev_gf rfl (by assumption) (by rfl) (by rfl) ?_)
    refine ev_s (st' := [.int (nI (k % 8 * 6))]) (congrArg (fun y => [Value.int y]) e2) ?_
    refine ev_ifT rfl (by exact b_ne (a := k % 8 * 6) (b := 0) (by omega) (by omega) (by omega)) ?_
    refine ev_l (lc' := [some (.ref 66), some (.ref v), some (.int z), some (.int (nI (k / 8))), some (.int (nI (k % 8 * 6)))]) (by
      have q := congr (congrArg (fun (y y' : Int32) => ([some (Value.ref 66), some (.ref v), some (.int z), some (.int y), some (.int y')] : j_L)) e1) e2
      exact q) ?_
    exact ke
  · omega
  · rw [st_ne _ _ (by omega), st_ne _ _ (by omega), st_ne _ _ (by omega)]; exact h3
  · rw [st_ne _ _ (by omega), st_ne _ _ (by omega), st_ne _ _ (by omega)]; exact hC.1
  · rw [st_ne _ _ (by omega), st_ne _ _ (by omega), st_ne _ _ (by omega)]; exact hC.2.1
  · rw [st_ne _ _ (by omega)]; exact st_same _ _ _
  · rw [st_ne _ _ (by omega), st_ne _ _ (by omega), st_ne _ _ (by omega)]; exact hC.2.2.2.1
  · rw [st_ne _ _ (by omega), st_ne _ _ (by omega), st_ne _ _ (by omega)]; exact hC.2.2.2.2
  · exact Rw_fr (Rw_set hR hB _) (Nat.le_refl _) (fun c c1 _ => by rw [st_ne _ _ (by omega), st_ne _ _ (by omega)])
  · rw [st_ne _ _ c2, st_ne _ _ c1, st_ne _ _ c3]
end WADD
