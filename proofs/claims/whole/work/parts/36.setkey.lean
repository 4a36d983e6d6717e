/-! VERSION: setKey; TAPE: moveTo (own text) -/
/-- a number out of bytes, the highest first -/
def nm (g : Nat → Nat) : Nat → Nat
  | 0 => 0
  | k + 1 => nm g k * 256 + g k
theorem w_sk {i : Nat} (hi : i < 40) : (56 : Int32) - 8 * (nI i &&& 7) = nI (56 - 8 * (i % 8)) := by
  rw [pk_andN (n := i) (m := 7) (by omega) 3 (by decide)]
  rw [show (8 : Int32) * nI (i % 2 ^ 3) = nI (8 * (i % 2 ^ 3)) from pk_mul 8 _]
  rw [show (56 : Int32) - nI (8 * (i % 2 ^ 3)) = nI (56 - 8 * (i % 2 ^ 3)) from pk_sub (a := 56) (by omega)]
theorem w_s3 {i : Nat} (hi : i < 2 ^ 31) : nI i >>> ((3 : Int32) &&& 31) = nI (i / 8) := pk_shrN hi _ 3 (by decide)
/-- the words hold the first i bytes -/
def kI (b : Nat → Int32) (i : Nat) (f : Nat → Int64) : Prop := (∀ w, w < 5 → f w = lN (wd (tg b i) w)) ∧ f 5 = 0
theorem kI_step {b : Nat → Int32} {i : Nat} {f : Nat → Int64} (hi : i < 40) (h : kI b i f) :
    kI b (i + 1) (vp_updL f (i / 8) (f (i / 8) ||| ((b i).toInt64 &&& 255) <<< (((56 : Int32) - 8 * (nI i &&& 7)).toInt64 &&& 63))) := by
  refine ⟨fun w hw => ?_, ?_⟩
  · by_cases c : w = i / 8
    · subst c
      rw [pk_uLs, h.1 _ hw, byN_and, w_sk hi, wb_shl _ (by omega)]
      have := wd_step b (i / 8) (i % 8) (by omega)
      rw [show 8 * (i / 8) + i % 8 = i by omega] at this
      exact this
    · rw [pk_uLn c, h.1 _ hw, wd_other b i w c]
  · rw [pk_uLn (by omega)]
    exact h.2
theorem wd_lt {g : Nat → Nat} (hg : ∀ j, g j < 256) (w : Nat) : wd g w < 2 ^ 64 := by
  have h0 := hg (8 * w + 0); have h1 := hg (8 * w + 1); have h2 := hg (8 * w + 2); have h3 := hg (8 * w + 3)
  have h4 := hg (8 * w + 4); have h5 := hg (8 * w + 5); have h6 := hg (8 * w + 6); have h7 := hg (8 * w + 7)
  unfold wd W8
  dsimp only
  omega
theorem nm_wd (g : Nat → Nat) (w : Nat) : nm g (8 * w + 8) = nm g (8 * w) * 2 ^ 64 + wd g w := by
  unfold wd W8
  dsimp only
  show ((((((((nm g (8 * w) * 256 + g (8 * w)) * 256 + g (8 * w + 1)) * 256 + g (8 * w + 2)) * 256 + g (8 * w + 3)) * 256 + g (8 * w + 4)) * 256 + g (8 * w + 5)) * 256 + g (8 * w + 6)) * 256 + g (8 * w + 7)) = _
  rw [show 8 * w + 0 = 8 * w from rfl]
  omega
theorem kI_num {b : Nat → Int32} {n : Nat} {f : Nat → Int64} (h : kI b n f) (x : Int64) : v_num (vp_updL f 5 x) = nm (tg b n) 40 := by
  have e : ∀ w, w < 5 → uN (vp_updL f 5 x w) = wd (tg b n) w := by
    intro w hw
    rw [pk_uLn (by omega), h.1 w hw, uN_lN (wd_lt (tg_lt b n) w)]
  have a0 := nm_wd (tg b n) 0
  have a1 := nm_wd (tg b n) 1
  have a2 := nm_wd (tg b n) 2
  have a3 := nm_wd (tg b n) 3
  have a4 := nm_wd (tg b n) 4
  unfold v_num
  rw [e 0 (by omega), e 1 (by omega), e 2 (by omega), e 3 (by omega), e 4 (by omega)]
  rw [show nm (tg b n) 40 = nm (tg b n) (8 * 4 + 8) from rfl, a4, show 8 * 4 = 8 * 3 + 8 from rfl, a3, show 8 * 3 = 8 * 2 + 8 from rfl, a2, show 8 * 2 = 8 * 1 + 8 from rfl, a1, show 8 * 1 = 8 * 0 + 8 from rfl, a0]
  rw [show nm (tg b n) (8 * 0) = 0 from rfl, Nat.zero_mul, Nat.zero_add]
/-- the words say the key of the first n bytes, and nothing more -/
def kS (b : Nat → Int32) (n : Nat) (f : Nat → Int64) : Prop := v_num f = nm (tg b n) 40 ∧ uN (f 5) = n * 2 ^ 52
theorem kS_all {b : Nat → Int32} {n : Nat} {f : Nat → Int64} (hn : n < 4096) (h : kS b n f) : v_len f = n ∧ v_mom f = 0 := by
  refine ⟨?_, ?_⟩
  · unfold v_len; rw [h.2]; omega
  · unfold v_mom; rw [h.2]; omega
theorem x_Ve_setKey (d : Nat) {mem : j_M} {v w a L : Nat} {f : Nat → Int64} {b : Nat → Int32} (h : Ve mem v w f) (hw : 4 ≤ w) (hvw : v ≠ w) (haw : a ≠ w) (ha : mem.2.2 a = some (.inl (2, 60, .inl b))) (hL : L ≤ 40) :
    ∃ f', kS b L f' ∧ j_ex tb (d + 2) m_Ve_setKey [.ref v, .ref a, .int (nI L)] mem (.inl none) (j_set mem w (.inl (1, 6, .inr (.inl f')))) := by
  have loop : ∀ (k i : Nat) (f : Nat → Int64), i + k = L → kI b i f → ∃ f', kS b L f' ∧ j_ev (d + 2) (j_ex tb (d + 1)) (j_tab q_Ve_setKey) [] (.inl none) (j_set mem w (.inl (1, 6, .inr (.inl f')))) 10 [some (.ref v), some (.ref a), some (.int (nI L)), some (.int (nI i))] [] (j_set mem w (.inl (1, 6, .inr (.inl f)))) := by
    intro k
    induction k with
    | zero =>
      intro i f hi hk
      have hi : i = L := by omega
      subst hi
      have hv : (j_set mem w (.inl (1, 6, .inr (.inl f)))).2.2 v = some (.inr (8, [.ref w])) := by rw [st_ne _ _ hvw]; exact h.1
      have hw1 : (j_set mem w (.inl (1, 6, .inr (.inl f)))).2.2 w = some (.inl (1, 6, .inr (.inl f))) := st_same _ _ _
      refine ⟨vp_updL f 5 (lN (i * 2 ^ 52)), ⟨kI_num hk _, ?_⟩, ?_⟩
      · rw [pk_uLs, uN_lN (by omega)]
      · rw [← wb_shl i (k := 52) (by omega), ← nI_l (n := i) (by omega)]
        repeat (first | refine ev_go rfl (by rfl) ?_ | refine ev_gf rfl (by assumption) (by rfl) (by rfl) ?_)
        refine ev_icT rfl (by exact b_le (a := i) (b := i) (by omega) (by omega) (by omega)) ?_
        repeat (first | refine ev_go rfl (by rfl) ?_ | refine ev_gf rfl (by assumption) (by rfl) (by rfl) ?_)
        refine ev_ajN (i := 5) rfl (by assumption) (by omega) (by omega) (by omega) ?_
        rw [st_st]
        exact j_ev.ret rfl
    | succ k ih =>
      intro i f hi hk
      obtain ⟨f', hf', k1⟩ := ih (i + 1) _ (by omega) (kI_step (by omega) hk)
      refine ⟨f', hf', ?_⟩
      have hv : (j_set mem w (.inl (1, 6, .inr (.inl f)))).2.2 v = some (.inr (8, [.ref w])) := by rw [st_ne _ _ hvw]; exact h.1
      have hw1 : (j_set mem w (.inl (1, 6, .inr (.inl f)))).2.2 w = some (.inl (1, 6, .inr (.inl f))) := st_same _ _ _
      have ha1 : (j_set mem w (.inl (1, 6, .inr (.inl f)))).2.2 a = some (.inl (2, 60, .inl b)) := by rw [st_ne _ _ haw]; exact ha
      rw [← nI_1 i] at k1
      have e3 := w_s3 (i := i) (by omega)
      repeat (first | refine ev_go rfl (by rfl) ?_ | refine ev_gf rfl (by assumption) (by rfl) (by rfl) ?_)
      refine ev_icF rfl (by exact b_nle (a := L) (b := i) (by omega) (by omega) (by omega)) ?_
      repeat (first | refine ev_go rfl (by rfl) ?_ | refine ev_gf rfl (by assumption) (by rfl) (by rfl) ?_)
      refine ev_icF rfl (by exact b_nle (a := 40) (b := i) (by omega) (by omega) (by omega)) ?_
      repeat (first | refine ev_go rfl (by rfl) ?_ | refine ev_gf rfl (by assumption) (by rfl) (by rfl) ?_)
      refine ev_an rfl (by assumption) (by rfl) ?_
      refine ev_icF rfl (by exact b_nle (a := 60) (b := i) (by omega) (by omega) (by omega)) ?_
      repeat (first | refine ev_go rfl (by rfl) ?_ | refine ev_gf rfl (by assumption) (by rfl) (by rfl) ?_)
      simp only [e3]
      refine ev_aljN (i := i / 8) rfl (by assumption) (by omega) (by omega) ?_
      repeat (first | refine ev_go rfl (by rfl) ?_ | refine ev_gf rfl (by assumption) (by rfl) (by rfl) ?_)
      refine ev_albN (i := i) rfl (by assumption) (by rfl) (by omega) (by omega) ?_
      repeat (first | refine ev_go rfl (by rfl) ?_ | refine ev_gf rfl (by assumption) (by rfl) (by rfl) ?_)
      refine ev_ajN (i := i / 8) rfl (by assumption) (by omega) (by omega) (by omega) ?_
      rw [st_st]
      repeat (first | exact k1 | refine ev_go rfl (by rfl) ?_ | refine ev_gf rfl (by assumption) (by rfl) (by rfl) ?_)
  have hfl : kI b 0 (flJ f 6 0) := by
    refine ⟨fun w hw => ?_, rfl⟩
    have e : flJ f 6 0 w = 0 := if_pos (by omega)
    rw [e]
    have : wd (tg b 0) w = 0 := by
      unfold wd W8
      dsimp only
      rw [tg_out (by omega), tg_out (by omega), tg_out (by omega), tg_out (by omega), tg_out (by omega), tg_out (by omega), tg_out (by omega), tg_out (by omega)]
    rw [this]
    rfl
  obtain ⟨f', hf', k0⟩ := loop L 0 (flJ f 6 0) (by omega) hfl
  refine ⟨f', hf', ?_⟩
  have h1 := h.1
  refine ⟨e_Ve_setKey, rfl, Nat.le_of_ble_eq_true rfl, ?_⟩
  repeat (first | refine ev_go rfl (by rfl) ?_ | refine ev_gf rfl (by assumption) (by rfl) (by rfl) ?_)
  refine j_ev.call rfl (x_Ar_fillJ d h.2 hw (by omega) 0) ?_
  repeat (first | exact k0 | refine ev_go rfl (by rfl) ?_ | refine ev_gf rfl (by assumption) (by rfl) (by rfl) ?_)
theorem x_Tp_moveTo (d : Nat) {mem : j_M} {v w L : Nat} {f : Nat → Int64} {b : Nat → Int32} (hT : Ta mem L b) (h : Ve mem v w f) (hw : 7 ≤ w) (hvw : v ≠ w) (hL : L ≤ 40) :
    ∃ f', kS b L f' ∧ j_ex tb (d + 3) m_Tp_moveTo [.ref 5, .ref v] mem (.inl none) (j_set (j_set mem w (.inl (1, 6, .inr (.inl f')))) 5 (.inr (1, [.int (nI 0), .ref 6]))) := by
  obtain ⟨f', hf', k0⟩ := x_Ve_setKey d h (by omega) hvw (a := 6) (by omega) hT.2 hL
  refine ⟨f', hf', ?_⟩
  have h1 := hT.1
  have hv := h.1
  have h2 : (j_set mem w (.inl (1, 6, .inr (.inl f')))).2.2 5 = some (.inr (1, [.int (nI L), .ref 6])) := by rw [st_ne _ _ (by omega)]; exact h1
  refine ⟨e_Tp_moveTo, rfl, Nat.le_of_ble_eq_true rfl, ?_⟩
  repeat (first | refine ev_go rfl (by rfl) ?_ | refine ev_gf rfl (by assumption) (by rfl) (by rfl) ?_)
  refine ev_cv (as := [.ref 6, .int (nI L)]) rfl rfl rfl (by assumption) (by rfl) (by rfl) (k0) ?_
  repeat (first | refine ev_go rfl (by rfl) ?_ | refine ev_gf rfl (by assumption) (by rfl) (by rfl) ?_)
  refine ev_pf rfl (by assumption) (by rfl) (by rfl) (by rfl) ?_
  exact j_ev.ret rfl
