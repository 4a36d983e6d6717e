/-! LEVEL: what is read (own text) -/
/-- a table: its cell, its array's cell, its blocks, how many versions, its sum -/
abbrev TR : Type := Nat × Nat × List Nat × Nat × Int64
def tz : TR := (0, 0, [], 0, 0)
def sta (ts : List TR) (j : Nat) : Nat := ((ts.take j).map (fun τ => τ.2.2.2.1)).sum
theorem sta_0 (ts : List TR) : sta ts 0 = 0 := rfl
theorem sta_s {ts : List TR} {j : Nat} (h : j < ts.length) : sta ts (j + 1) = sta ts j + (ts.getD j tz).2.2.2.1 := by
  unfold sta
  rw [List.take_succ, List.getElem?_eq_getElem h, List.map_append, List.sum_append, List.getD_eq_getElem?_getD, List.getElem?_eq_getElem h]
  simp
theorem sta_le {ts : List TR} : ∀ (k j : Nat), j + k ≤ ts.length → sta ts j ≤ sta ts (j + k)
  | 0, _, _ => Nat.le_refl _
  | k + 1, j, h => by
    have h1 := sta_le (ts := ts) k j (by omega)
    have h2 := sta_s (ts := ts) (j := j + k) (by omega)
    rw [show j + (k + 1) = j + k + 1 by omega, h2]
    omega
theorem sta_mono {ts : List TR} {i j : Nat} (h : i ≤ j) (hj : j ≤ ts.length) : sta ts i ≤ sta ts j := by
  have := sta_le (ts := ts) (j - i) i (by omega)
  rw [show i + (j - i) = j by omega] at this
  exact this
def TbX (mem : j_M) (τ : TR) (st : Nat) : Prop := Tb mem τ.1 τ.2.1 τ.2.2.1 τ.2.2.2.1 τ.2.2.2.2 st
/-- a level at L: its tables -/
def Lv (mem : j_M) (L e cap : Nat) (ts : List TR) (fm : Nat → Int64) : Prop :=
  mem.2.2 L = some (.inr (5, [.ref (L + 1), .int (nI (sta ts ts.length)), .ref 9, .ref (L + 3)])) ∧ Ve mem (L + 1) (L + 2) fm ∧ Al mem (L + 3) e cap (ts.map (fun τ => τ.1)) ∧ ∀ j, j < ts.length → TbX mem (ts.getD j tz) (sta ts j)
/-- a level without its middle version -/
def Lw (mem : j_M) (L e cap : Nat) (ts : List TR) : Prop :=
  mem.2.2 L = some (.inr (5, [.ref (L + 1), .int (nI (sta ts ts.length)), .ref 9, .ref (L + 3)])) ∧ True ∧ Al mem (L + 3) e cap (ts.map (fun τ => τ.1)) ∧ ∀ j, j < ts.length → TbX mem (ts.getD j tz) (sta ts j)
theorem Lv_Lw {mem : j_M} {L e cap : Nat} {ts : List TR} {fm : Nat → Int64} (h : Lv mem L e cap ts fm) : Lw mem L e cap ts := ⟨h.1, trivial, h.2.2.1, h.2.2.2⟩
theorem getD_map1 (ts : List TR) (j : Nat) : (ts.map (fun τ => τ.1)).getD j 0 = (ts.getD j tz).1 := by
  simp only [List.getD_eq_getElem?_getD, List.getElem?_map]
  cases ts[j]? <;> rfl
section LEV
variable {mem : j_M} {L e cap : Nat} {ts : List TR} {fm : Nat → Int64}
theorem x_Lv_count (d : Nat) (h : Lv mem L e cap ts fm) : j_ex tb (d + 1) m_Lv_count [.ref L] mem (.inl (some (.int (nI (sta ts ts.length))))) mem := by
  have h1 := h.1
  refine ⟨e_Lv_count, rfl, Nat.le_of_ble_eq_true rfl, ?_⟩
  repeat (first | refine ev_go rfl (by rfl) ?_ | refine ev_gf rfl (by assumption) (by rfl) (by rfl) ?_)
  exact j_ev.ret rfl
theorem Al_len (h : Al mem (L + 3) e cap (ts.map (fun τ => τ.1))) : ts.length ≤ cap := by
  obtain ⟨_, _, _, _, _, h4⟩ := h
  rw [List.length_map] at h4
  exact h4
theorem x_ALs (d : Nat) (h : Al mem (L + 3) e cap (ts.map (fun τ => τ.1))) : j_ex tb (d + 1) m_AL_size [.ref (L + 3)] mem (.inl (some (.int (nI ts.length)))) mem := by
  have := x_AL_size d h
  rw [List.length_map] at this
  exact this
theorem x_ALg (d : Nat) {j : Nat} (h : Al mem (L + 3) e cap (ts.map (fun τ => τ.1))) (hj : j < ts.length) (hc : cap < 2 ^ 20) : j_ex tb (d + 3) m_AL_get [.ref (L + 3), .int (nI j)] mem (.inl (some (.ref (ts.getD j tz).1))) mem := by
  have := x_AL_get d h (i := j) (by rw [List.length_map]; exact hj) (by omega)
  rw [getD_map1] at this
  exact this
theorem x_Lv_tableCount (d : Nat) (h : Lv mem L e cap ts fm) : j_ex tb (d + 2) m_Lv_tableCount [.ref L] mem (.inl (some (.int (nI ts.length)))) mem := by
  have h1 := h.1
  obtain ⟨md, E, a1, a2, a3, a4⟩ := h.2.2.1
  refine ⟨e_Lv_tableCount, rfl, Nat.le_of_ble_eq_true rfl, ?_⟩
  repeat (first | refine ev_go rfl (by rfl) ?_ | refine ev_gf rfl (by assumption) (by rfl) (by rfl) ?_)
  refine ev_cv (as := []) rfl rfl rfl (by assumption) (by rfl) (by rfl) (x_ALs d h.2.2.1) ?_
  exact j_ev.ret rfl
theorem x_Lv_startOf (d : Nat) {t : Nat} (h : Lv mem L e cap ts fm) (hc : cap < 2 ^ 20) (ht : t ≤ ts.length) : j_ex tb (d + 4) m_Lv_startOf [.ref L, .int (nI t)] mem (.inl (some (.int (nI (sta ts t))))) mem := by
  have h1 := h.1
  obtain ⟨md, E, a1, a2, a3, a4⟩ := h.2.2.1
  have hl := Al_len h.2.2.1
  by_cases c : t < ts.length
  · have hT := h.2.2.2 t c
    have t1 := hT.1
    refine ⟨e_Lv_startOf, rfl, Nat.le_of_ble_eq_true rfl, ?_⟩
    repeat (first | refine ev_go rfl (by rfl) ?_ | refine ev_gf rfl (by assumption) (by rfl) (by rfl) ?_)
    refine ev_ifF rfl (by exact b_nlt (a := t) (b := 0) (by omega) (by omega) (by omega)) ?_
    repeat (first | refine ev_go rfl (by rfl) ?_ | refine ev_gf rfl (by assumption) (by rfl) (by rfl) ?_)
    refine ev_cv (as := []) rfl rfl rfl (by assumption) (by rfl) (by rfl) (x_ALs (d + 2) h.2.2.1) ?_
    refine ev_icF rfl (by exact b_nle (a := ts.length) (b := t) (by omega) (by omega) (by omega)) ?_
    repeat (first | refine ev_go rfl (by rfl) ?_ | refine ev_gf rfl (by assumption) (by rfl) (by rfl) ?_)
    refine ev_cv (as := [.int (nI t)]) rfl rfl rfl (by assumption) (by rfl) (by rfl) (x_ALg d h.2.2.1 c hc) ?_
    refine ev_cco rfl (by assumption) (by rfl) ?_
    refine ev_cv (as := []) rfl rfl rfl (by assumption) (by rfl) (by rfl) (x_Tb_start (d + 2) hT) ?_
    repeat (first | refine ev_go rfl (by rfl) ?_ | refine ev_gf rfl (by assumption) (by rfl) (by rfl) ?_)
    exact j_ev.ret rfl
  · have e : t = ts.length := by omega
    subst e
    refine ⟨e_Lv_startOf, rfl, Nat.le_of_ble_eq_true rfl, ?_⟩
    repeat (first | refine ev_go rfl (by rfl) ?_ | refine ev_gf rfl (by assumption) (by rfl) (by rfl) ?_)
    refine ev_ifF rfl (by exact b_nlt (a := ts.length) (b := 0) (by omega) (by omega) (by omega)) ?_
    repeat (first | refine ev_go rfl (by rfl) ?_ | refine ev_gf rfl (by assumption) (by rfl) (by rfl) ?_)
    refine ev_cv (as := []) rfl rfl rfl (by assumption) (by rfl) (by rfl) (x_ALs (d + 2) h.2.2.1) ?_
    refine ev_icT rfl (by exact b_le (a := ts.length) (b := ts.length) (by omega) (by omega) (by omega)) ?_
    repeat (first | refine ev_go rfl (by rfl) ?_ | refine ev_gf rfl (by assumption) (by rfl) (by rfl) ?_)
    exact j_ev.ret rfl
theorem x_Lv_tableWith (d : Nat) {i : Nat} (h : Lw mem L e cap ts) (hc : cap < 2 ^ 20) (hn : sta ts ts.length < 2 ^ 30) (hi : i < 2 ^ 30) :
    ∃ j, (sta ts ts.length ≤ i → j = ts.length) ∧ (i < sta ts ts.length → j < ts.length ∧ sta ts j ≤ i ∧ i < sta ts (j + 1)) ∧ j_ex tb (d + 4) m_Lv_tableWith [.ref L, .int (nI i)] mem (.inl (some (.int (nI j)))) mem := by
  have h1 := h.1
  obtain ⟨md, E, a1, a2, a3, a4⟩ := h.2.2.1
  have hl := Al_len h.2.2.1
  by_cases c : sta ts ts.length ≤ i
  · refine ⟨ts.length, fun _ => rfl, fun q => by omega, ?_⟩
    refine ⟨e_Lv_tableWith, rfl, Nat.le_of_ble_eq_true rfl, ?_⟩
    repeat (first | refine ev_go rfl (by rfl) ?_ | refine ev_gf rfl (by assumption) (by rfl) (by rfl) ?_)
    refine ev_icF rfl (by exact b_nlt (a := i) (b := sta ts ts.length) (by omega) (by omega) (by omega)) ?_
    repeat (first | refine ev_go rfl (by rfl) ?_ | refine ev_gf rfl (by assumption) (by rfl) (by rfl) ?_)
    refine ev_cv (as := []) rfl rfl rfl (by assumption) (by rfl) (by rfl) (x_ALs (d + 2) h.2.2.1) ?_
    exact j_ev.ret rfl
  · have loop : ∀ (q w f : Nat) (x4 : Option Value), w ≤ q → 1 ≤ w → f + w ≤ ts.length → sta ts f ≤ i → i < sta ts (f + w) →
        ∃ j, j < ts.length ∧ sta ts j ≤ i ∧ i < sta ts (j + 1) ∧ j_ev (d + 4) (j_ex tb (d + 3)) (j_tab q_Lv_tableWith) [] (.inl (some (.int (nI j)))) (mem) 26 [some (.ref L), some (.int (nI i)), some (.int (nI f)), some (.int (nI w)), x4] [] mem := by
      intro q
      induction q with
      | zero => intro w f x4 b1 b2; omega
      | succ q ih =>
        intro w f x4 b1 b2 b3 b4 b5
        by_cases c1 : w = 1
        · subst c1
          refine ⟨f, by omega, b4, b5, ?_⟩
          repeat (first | refine ev_go rfl (by rfl) ?_ | refine ev_gf rfl (by assumption) (by rfl) (by rfl) ?_)
          exact j_ev.ret rfl
        · have e1 : nI w >>> ((1 : Int32) &&& 31) = nI (w / 2) := pk_shrN (by omega) _ 1 (by decide)
          have e2 : nI f + nI (w / 2) = nI (f + w / 2) := nI_add _ _
          have hj : f + w / 2 < ts.length := by omega
          have hT := h.2.2.2 _ hj
          have t1 := hT.1
          have kg := x_ALg d h.2.2.1 hj hc
          have hb1 := sta_mono (ts := ts) (i := f + w / 2) (j := ts.length) (by omega) (Nat.le_refl _)
          rw [← e2, ← e1] at kg
          have pre : ∀ (o : j_O) (mo : j_M), j_ev (d + 4) (j_ex tb (d + 3)) (j_tab q_Lv_tableWith) [] (o) (mo) 54 [some (.ref L), some (.int (nI i)), some (.int (nI f)), some (.int (nI w)), some (.int (nI (w / 2)))] [.int (nI i), .int (nI (sta ts (f + w / 2)))] mem →
              j_ev (d + 4) (j_ex tb (d + 3)) (j_tab q_Lv_tableWith) [] (o) (mo) 26 [some (.ref L), some (.int (nI i)), some (.int (nI f)), some (.int (nI w)), x4] [] mem := by
            intro o mo kk
            rw [← e1] at kk
            repeat (first | refine ev_go rfl (by rfl) ?_ | refine ev_gf rfl (by assumption) (by rfl) (by rfl) ?_)
            refine ev_icF rfl (by exact b_nle (a := w) (b := 1) (by omega) (by omega) (by omega)) ?_
            repeat (first | refine ev_go rfl (by rfl) ?_ | refine ev_gf rfl (by assumption) (by rfl) (by rfl) ?_)
            refine ev_cv (as := [.int (nI f + nI w >>> ((1 : Int32) &&& 31))]) rfl rfl rfl (by assumption) (by rfl) (by rfl) (kg) ?_
            refine ev_cco rfl (by assumption) (by rfl) ?_
            refine ev_cv (as := []) rfl rfl rfl (by assumption) (by rfl) (by rfl) (x_Tb_start (d + 2) hT) ?_
            repeat (first | exact kk | refine ev_go rfl (by rfl) ?_ | refine ev_gf rfl (by assumption) (by rfl) (by rfl) ?_)
          by_cases c2 : sta ts (f + w / 2) ≤ i
          · obtain ⟨j, z1, z2, z3, z4⟩ := ih (w - w / 2) (f + w / 2) (some (.int (nI (w / 2)))) (by omega) (by omega) (by omega) c2 (by rw [show f + w / 2 + (w - w / 2) = f + w by omega]; exact b5)
            refine ⟨j, z1, z2, z3, pre _ _ ?_⟩
            rw [← pk_sub (a := w) (b := w / 2) (by omega), ← e2] at z4
            refine ev_icF rfl (by exact b_nlt (a := i) (b := sta ts (f + w / 2)) (by omega) (by omega) (by omega)) ?_
            repeat (first | exact z4 | refine ev_go rfl (by rfl) ?_ | refine ev_gf rfl (by assumption) (by rfl) (by rfl) ?_)
          · obtain ⟨j, z1, z2, z3, z4⟩ := ih (w / 2) f (some (.int (nI (w / 2)))) (by omega) (by omega) (by omega) b4 (by omega)
            refine ⟨j, z1, z2, z3, pre _ _ ?_⟩
            refine ev_icT rfl (by exact b_lt (a := i) (b := sta ts (f + w / 2)) (by omega) (by omega) (by omega)) ?_
            repeat (first | exact z4 | refine ev_go rfl (by rfl) ?_ | refine ev_gf rfl (by assumption) (by rfl) (by rfl) ?_)
    have hpos : 1 ≤ ts.length := by
      rcases Nat.eq_zero_or_pos ts.length with z | z
      · rw [z, sta_0] at c; omega
      · exact z
    obtain ⟨j, z1, z2, z3, z4⟩ := loop ts.length ts.length 0 none (Nat.le_refl _) hpos (by omega) (by rw [sta_0]; omega) (by rw [Nat.zero_add]; omega)
    refine ⟨j, fun q => by omega, fun _ => ⟨z1, z2, z3⟩, ?_⟩
    refine ⟨e_Lv_tableWith, rfl, Nat.le_of_ble_eq_true rfl, ?_⟩
    repeat (first | refine ev_go rfl (by rfl) ?_ | refine ev_gf rfl (by assumption) (by rfl) (by rfl) ?_)
    refine ev_icT rfl (by exact b_lt (a := i) (b := sta ts ts.length) (by omega) (by omega) (by omega)) ?_
    repeat (first | refine ev_go rfl (by rfl) ?_ | refine ev_gf rfl (by assumption) (by rfl) (by rfl) ?_)
    refine ev_cv (as := []) rfl rfl rfl (by assumption) (by rfl) (by rfl) (x_ALs (d + 2) h.2.2.1) ?_
    repeat (first | exact z4 | refine ev_go rfl (by rfl) ?_ | refine ev_gf rfl (by assumption) (by rfl) (by rfl) ?_)
end LEV
