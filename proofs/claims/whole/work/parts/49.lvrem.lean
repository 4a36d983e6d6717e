/-! LEVEL: remove (own text) -/
theorem w_m1 (x : Int32) : x + (-1) = x - 1 := by
  apply Int32.toBitVec_inj.mp
  rw [Int32.toBitVec_add, Int32.toBitVec_sub]
  exact (BitVec.sub_eq_add_neg x.toBitVec 1#32).symm
theorem mk_mk (f : Nat → Int32) (l l' : List Nat) (v : Int32) : mk (mk f l v) l' v = mk f (l' ++ l) v := by
  funext x
  unfold mk
  by_cases h : x ∈ l'
  · rw [if_pos h, if_pos (List.mem_append_left _ h)]
  · rw [if_neg h]
    by_cases h2 : x ∈ l
    · rw [if_pos h2, if_pos (List.mem_append_right _ h2)]
    · rw [if_neg h2, if_neg (fun q => (List.mem_append.mp q).elim h h2)]
theorem rem_map {ts : List TR} {k b : Nat} (hk : k < ts.length) : ((ts.take (k + 1) ++ ts.drop b).map (fun τ => τ.1)).take k ++ ((ts.take (k + 1) ++ ts.drop b).map (fun τ => τ.1)).drop (k + 1) = (ts.take k ++ ts.drop b).map (fun τ => τ.1) := by
  rw [← List.map_take, ← List.map_drop, ← List.map_append]
  congr 1
  have hl : (ts.take (k + 1)).length = k + 1 := by rw [List.length_take]; omega
  rw [List.take_append_of_le_length (by omega), List.take_take, Nat.min_eq_left (by omega)]
  rw [List.drop_append_of_le_length (by omega), List.drop_eq_nil_of_le (by omega), List.nil_append]
theorem rem_get {ts : List TR} {k b : Nat} (hk : k < ts.length) : (ts.take (k + 1) ++ ts.drop b).getD k tz = ts.getD k tz := by
  simp only [List.getD_eq_getElem?_getD]
  rw [List.getElem?_append_left (by rw [List.length_take]; omega), List.getElem?_take_of_lt (by omega)]
theorem rem_fm {ts : List TR} {k b : Nat} (hk : k < b) (hb : b ≤ ts.length) : ((ts.take b).drop k).flatMap (fun τ => τ.2.2.1) = (ts.getD k tz).2.2.1 ++ ((ts.take b).drop (k + 1)).flatMap (fun τ => τ.2.2.1) := by
  have hl : k < (ts.take b).length := by rw [List.length_take]; omega
  rw [List.drop_eq_getElem_cons hl, List.flatMap_cons]
  congr 2
  rw [List.getElem_take, List.getD_eq_getElem?_getD, List.getElem?_eq_getElem (by omega)]
  rfl
theorem rem_sub {ts : List TR} {a b : Nat} {τ : TR} (h : τ ∈ ts.take a ++ ts.drop b) : τ ∈ ts := (List.mem_append.mp h).elim List.mem_of_mem_take List.mem_of_mem_drop
theorem rem_nd {ts : List TR} {a b : Nat} (hab : a ≤ b) (h : (ts.map (fun τ => τ.1)).Nodup) : ((ts.take a ++ ts.drop b).map (fun τ => τ.1)).Nodup := by
  have hs : (ts.take a ++ ts.drop b).Sublist ts := by
    have h1 : (ts.take a ++ ts.drop b).Sublist (ts.take a ++ ts.drop a) := by
      refine List.Sublist.append (List.Sublist.refl _) ?_
      have : ts.drop b = (ts.drop a).drop (b - a) := by rw [List.drop_drop]; congr 1; omega
      rw [this]
      exact List.drop_sublist _ _
    rw [List.take_append_drop] at h1
    exact h1
  exact List.Pairwise.sublist (hs.map _) h
section REM
variable {mem : j_M} {L e cap : Nat} {ts : List TR} {fm : Nat → Int64} {B : Nat → Option Nat} {Wn T U : Nat → Int32}
theorem x_Lv_remove (d : Nat) {a b : Nat} (h : Lv mem L e cap ts fm) (hr : Lr mem e cap ts) (hnd : (ts.map (fun τ => τ.1)).Nodup) (hL : 14 ≤ L ∧ L + 3 < 78) (hC : Cp mem B Wn T U) (hW : ∀ τ ∈ ts, Wt B τ) (hc : cap < 2 ^ 20) (hn : sta ts ts.length < 2 ^ 20) (hab : a ≤ b) (hb : b ≤ ts.length) :
    ∃ mem', j_ex tb (d + 5) m_Lv_remove [.ref L, .int (nI a), .int (nI b)] mem (.inl none) mem' ∧ Lv mem' L e cap (ts.take a ++ ts.drop b) fm ∧ Cp mem' B Wn (mk T (((ts.take b).drop a).flatMap (fun τ => τ.2.2.1)) 0) U ∧ mem'.1 = mem.1 ∧ mem'.2.1 = mem.2.1 ∧ ∀ c, c ≠ L → c ≠ L + 3 → (c ≠ e ∨ c = 2) → c ≠ 12 → (∀ τ ∈ ts, c ≠ τ.1) → mem'.2.2 c = mem.2.2 c := by
  have hlen := Al_len h.2.2.1
  have e12 : e ≠ 12 := fun q => by
    by_cases c : cap = 0
    · have := hr.1.1 c; omega
    · have := (hr.1.2 c).1; omega
  have hnτ : ∀ τ ∈ ts, τ.2.2.2.1 < 2 ^ 20 := fun τ hτ => by
    obtain ⟨j, hj, rfl⟩ := List.mem_iff_getElem.mp hτ
    have h1 := sta_s (ts := ts) hj
    have h2 := sta_mono (ts := ts) (i := j + 1) (j := ts.length) (by omega) (Nat.le_refl _)
    rw [List.getD_eq_getElem?_getD, List.getElem?_eq_getElem hj] at h1
    change sta ts (j + 1) = sta ts j + ts[j].2.2.2.1 at h1
    omega
  have loop : ∀ (g k : Nat) (m : j_M) (c0 : Int32), k = a + g → k ≤ b → Lp m L e cap (ts.take k ++ ts.drop b) c0 fm → Cp m B Wn (mk T (((ts.take b).drop k).flatMap (fun τ => τ.2.2.1)) 0) U → m.1 = mem.1 → m.2.1 = mem.2.1 → (∀ c, c ≠ L + 3 → (c ≠ e ∨ c = 2) → c ≠ 12 → m.2.2 c = mem.2.2 c) →
      ∃ mem', j_ev (d + 5) (j_ex tb (d + 4)) (j_tab q_Lv_remove) [] (.inl none) (mem') 14 [some (.ref L), some (.int (nI a)), some (.int (nI b)), some (.int (nI k - 1))] [] m ∧ Lv mem' L e cap (ts.take a ++ ts.drop b) fm ∧ Cp mem' B Wn (mk T (((ts.take b).drop a).flatMap (fun τ => τ.2.2.1)) 0) U ∧ mem'.1 = mem.1 ∧ mem'.2.1 = mem.2.1 ∧ ∀ c, c ≠ L → c ≠ L + 3 → (c ≠ e ∨ c = 2) → c ≠ 12 → (∀ τ ∈ ts, c ≠ τ.1) → mem'.2.2 c = mem.2.2 c := by
    intro g
    induction g with
    | zero =>
      intro k m c0 hk hkb g1 g2 g3 g4 g5
      have hk : k = a := by omega
      subst hk
      have hr' : Lr m e cap (ts.take k ++ ts.drop b) := by
        refine ⟨⟨hr.1.1, fun q => by rw [g3]; exact hr.1.2 q⟩, fun τ hτ => by rw [g3]; exact hr.2 τ (rem_sub hτ)⟩
      obtain ⟨mem', z1, z2, z3, z4, z5⟩ := x_Lv_renumber d g1 hr' (rem_nd hab hnd) hL hc
      have fr : ∀ c, c < 14 → mem'.2.2 c = m.2.2 c := fun c hc => z5 c (by omega) (fun τ hτ => by have := hr.2 τ (rem_sub hτ); omega)
      refine ⟨mem', ?_, z2, ⟨by rw [fr _ (by omega)]; exact g2.1, by rw [fr _ (by omega)]; exact g2.2.1, by rw [fr _ (by omega)]; exact g2.2.2.1, by rw [fr _ (by omega)]; exact g2.2.2.2.1, by rw [fr _ (by omega)]; exact g2.2.2.2.2⟩, by rw [z3, g3], by rw [z4, g4], fun c c1 c2 c3 c4 c5 => by rw [z5 c c1 (fun τ hτ => c5 τ (rem_sub hτ)), g5 c c2 c3 c4]⟩
      have l1 := g1.1
      repeat (first | refine ev_go rfl (by rfl) ?_ | refine ev_gf rfl (by assumption) (by rfl) (by rfl) ?_)
      refine ev_icT rfl (by
        refine decide_eq_true ?_
        by_cases c : k = 0
        · subst c; decide
        · rw [show nI k - 1 = nI (k - 1) from pk_sub (b := 1) (by omega)]
          exact nI_lt (by omega) (by omega)) ?_
      repeat (first | refine ev_go rfl (by rfl) ?_ | refine ev_gf rfl (by assumption) (by rfl) (by rfl) ?_)
      refine ev_cv (as := []) rfl rfl rfl (by assumption) (by rfl) (by rfl) (z1) ?_
      exact j_ev.ret rfl
    | succ g ih =>
      intro k m c0 hk hkb g1 g2 g3 g4 g5
      obtain ⟨k, rfl⟩ : ∃ k', k = k' + 1 := ⟨k - 1, by omega⟩
      have hkl : k < ts.length := by omega
      have hlk : k < (ts.take (k + 1) ++ ts.drop b).length := by rw [List.length_append, List.length_take]; omega
      have hτm : ts.getD k tz ∈ ts.take (k + 1) ++ ts.drop b := by
        have := trD_mem hlk
        rw [rem_get hkl] at this
        exact this
      obtain ⟨st, hT⟩ := g1.2.2.2 _ hτm
      have hrk := hr.2 _ (trD_mem hkl)
      have hWk := hW _ (trD_mem hkl)
      have hnk := hnτ _ (trD_mem hkl)
      have kg := x_ALg (d + 1) g1.2.2.1 hlk hc
      rw [rem_get hkl] at kg
      have kr := x_Tb_release (d + 2) hT g2 (by omega) (by rw [hWk.2.1]; omega) (fun b' hb' => (hWk.2.2 b' hb').1)
      rw [mk_mk, ← rem_fm (by omega) hb] at kr
      generalize hT' : mk T (((ts.take b).drop k).flatMap (fun τ => τ.2.2.1)) 0 = T' at kr
      obtain ⟨md, E, a1, a2, a3, a4⟩ := g1.2.2.1
      generalize hm1 : j_set m 12 (.inl (0, 1000, .inl T')) = m1 at kr
      have f1 : ∀ c, c ≠ 12 → m1.2.2 c = m.2.2 c := fun c hc => by rw [← hm1]; exact st_ne _ _ hc
      have hA1 : Al m1 (L + 3) e cap ((ts.take (k + 1) ++ ts.drop b).map (fun τ => τ.1)) := ⟨md, E, by rw [f1 _ (by omega)]; exact a1, by rw [f1 _ e12]; exact a2, a3, a4⟩
      have hTb1 : ∀ τ ∈ ts.take (k + 1) ++ ts.drop b, ∃ st, TbX m1 τ st := fun τ hτ => by
        obtain ⟨st, q⟩ := g1.2.2.2 τ hτ
        have := hr.2 τ (rem_sub hτ)
        exact ⟨st, TbX_fr q (f1 _ (by omega)) (f1 _ (by omega))⟩
      have hTbs : Tbs m1 ((ts.take (k + 1) ++ ts.drop b).map (fun τ => τ.1)) := fun y hy => by
        obtain ⟨τ, hτ, rfl⟩ := List.mem_map.mp hy
        obtain ⟨st, q⟩ := hTb1 τ hτ
        have := hr.2 τ (rem_sub hτ)
        refine ⟨by omega, ?_, _, q.1⟩
        rw [← hm1]
        show τ.1 < m.1
        rw [g3]
        exact this.2.1
      have e4 : 4 ≤ e := by
        by_cases c : cap = 0
        · rw [List.length_map] at a4; omega
        · have := (hr.1.2 c).1; omega
      have eL3 : L + 3 ≠ e := fun q => by
        by_cases c : cap = 0
        · have := hr.1.1 c; omega
        · have := (hr.1.2 c).1; omega
      have eL : L ≠ e := fun q => by
        by_cases c : cap = 0
        · have := hr.1.1 c; omega
        · have := (hr.1.2 c).1; omega
      have eb : e = 2 ∨ 78 ≤ e := by
        by_cases c : cap = 0
        · exact Or.inl (hr.1.1 c)
        · exact Or.inr (hr.1.2 c).1
      obtain ⟨m2, r1, r2, r3, r4, r5⟩ := x_AL_remove (d + 1) (i := k) hA1 (by rw [List.length_map]; exact hlk) e4 hTbs hc eL3
      rw [rem_map hkl] at r2
      have f2 : ∀ c, c ≠ 12 → c ≠ L + 3 → c ≠ e → m2.2.2 c = m.2.2 c := fun c c1 c2 c3 => by rw [r5 c c2 c3, f1 c c1]
      have hE1 := r2
      have hC2 : Cp m2 B Wn T' U := by
        refine ⟨?_, ?_, ?_, ?_, ?_⟩
        · rw [f2 _ (by omega) (by omega) (by omega)]; exact g2.1
        · rw [f2 _ (by omega) (by omega) (by omega)]; exact g2.2.1
        · rw [f2 _ (by omega) (by omega) (by omega)]; exact g2.2.2.1
        · rw [r5 _ (by omega) (by omega), ← hm1]; exact st_same _ _ _
        · rw [f2 _ (by omega) (by omega) (by omega)]; exact g2.2.2.2.2
      have hP2 : Lp m2 L e cap (ts.take k ++ ts.drop b) c0 fm := by
        refine ⟨?_, ⟨?_, ?_⟩, r2, fun τ hτ => ?_⟩
        · rw [f2 _ (by omega) (by omega) (by omega)]; exact g1.1
        · rw [f2 _ (by omega) (by omega) (by omega)]; exact g1.2.1.1
        · rw [f2 _ (by omega) (by omega) (by omega)]; exact g1.2.1.2
        · have hτ' : τ ∈ ts.take (k + 1) ++ ts.drop b := by
            rcases List.mem_append.mp hτ with q | q
            · refine List.mem_append_left _ ?_
              rw [← Nat.min_eq_left (show k ≤ k + 1 by omega), ← List.take_take] at q
              exact List.mem_of_mem_take q
            · exact List.mem_append_right _ q
          obtain ⟨st, q⟩ := hTb1 τ hτ'
          have hrτ := hr.2 τ (rem_sub hτ)
          have n1 : τ.1 ≠ e := fun z => by
            have h1 := q.1
            rw [z, f1 _ e12, a2] at h1
            cases h1
          have n2 : τ.2.1 ≠ e := fun z => by
            obtain ⟨_, f, h1, _⟩ := q
            rw [z, f1 _ e12, a2] at h1
            cases h1
          exact ⟨st, TbX_fr q (r5 _ (by omega) n1) (r5 _ (by omega) n2)⟩
      have hm11 : m1.1 = m.1 := by rw [← hm1]; rfl
      have hm12 : m1.2.1 = m.2.1 := by rw [← hm1]; rfl
      obtain ⟨mem', z1, z2⟩ := ih k m2 c0 (by omega) (by omega) hP2 (by rw [hT']; exact hC2) (by rw [r3, hm11, g3]) (by rw [r4, hm12, g4]) (fun c c1 c2 c3 => by rw [f2 c c3 c1 (by omega), g5 c c1 c2 c3])
      refine ⟨mem', ?_, z2⟩
      have l1 := g1.1
      have l2 : m1.2.2 L = some (.inr (5, [.ref (L + 1), .int c0, .ref 9, .ref (L + 3)])) := by rw [f1 _ (by omega)]; exact l1
      obtain ⟨md1, E1, q1, q2, q3, q4⟩ := hA1
      have t1 := hT.1
      rw [show nI (k + 1) - 1 = nI k from nI_pred k]
      rw [← w_m1] at z1
      repeat (first | refine ev_go rfl (by rfl) ?_ | refine ev_gf rfl (by assumption) (by rfl) (by rfl) ?_)
      refine ev_icF rfl (by exact b_nlt (a := k) (b := a) (by omega) (by omega) (by omega)) ?_
      repeat (first | refine ev_go rfl (by rfl) ?_ | refine ev_gf rfl (by assumption) (by rfl) (by rfl) ?_)
      refine ev_ifF rfl (by exact b_nlt (a := k) (b := 0) (by omega) (by omega) (by omega)) ?_
      repeat (first | refine ev_go rfl (by rfl) ?_ | refine ev_gf rfl (by assumption) (by rfl) (by rfl) ?_)
      refine ev_cv (as := [.int (nI k)]) rfl rfl rfl (by assumption) (by rfl) (by rfl) (kg) ?_
      refine ev_cco rfl (by assumption) (by rfl) ?_
      repeat (first | refine ev_go rfl (by rfl) ?_ | refine ev_gf rfl (by assumption) (by rfl) (by rfl) ?_)
      refine ev_cv (as := [.ref 9]) rfl rfl rfl (by assumption) (by rfl) (by rfl) (kr) ?_
      repeat (first | refine ev_go rfl (by rfl) ?_ | refine ev_gf rfl (by assumption) (by rfl) (by rfl) ?_)
      refine ev_cv (as := [.int (nI k)]) rfl rfl rfl (by assumption) (by rfl) (by rfl) (r1) ?_
      repeat (first | exact z1 | refine ev_go rfl (by rfl) ?_ | refine ev_gf rfl (by assumption) (by rfl) (by rfl) ?_)
  obtain ⟨mem', z1, z2⟩ := loop (b - a) b mem (nI (sta ts ts.length)) (by omega) (Nat.le_refl _) (by rw [List.take_append_drop]; exact Lv_Lp h) (by rw [List.drop_eq_nil_of_le (by rw [List.length_take]; omega), List.flatMap_nil, mk_nil]; exact hC) rfl rfl (fun _ _ _ _ => rfl)
  refine ⟨mem', ?_, z2⟩
  have l1 := h.1
  obtain ⟨md, E, a1, a2, a3, a4⟩ := h.2.2.1
  have ks := x_ALs (d + 3) h.2.2.1
  have em := w_min (a := b) (b := ts.length) (by omega) (by omega)
  rw [if_neg (show ¬ ts.length < b by omega)] at em
  refine ⟨e_Lv_remove, rfl, Nat.le_of_ble_eq_true rfl, ?_⟩
  repeat (first | refine ev_go rfl (by rfl) ?_ | refine ev_gf rfl (by assumption) (by rfl) (by rfl) ?_)
  refine ev_cv (as := []) rfl rfl rfl (by assumption) (by rfl) (by rfl) (ks) ?_
  refine j_ev.go rfl ?_
  refine ev_vi em ?_
  repeat (first | exact z1 | refine ev_go rfl (by rfl) ?_ | refine ev_gf rfl (by assumption) (by rfl) (by rfl) ?_)
end REM
