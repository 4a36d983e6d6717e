/-! VERSION: what its six words say, and its methods (own text) -/
def v_num (f : Nat → Int64) : Nat := (((uN (f 0) * 2 ^ 64 + uN (f 1)) * 2 ^ 64 + uN (f 2)) * 2 ^ 64 + uN (f 3)) * 2 ^ 64 + uN (f 4)
def v_len (f : Nat → Int64) : Nat := uN (f 5) / 2 ^ 52
def v_mom (f : Nat → Int64) : Nat := uN (f 5) / 2 ^ 42 % 1024
def v_th (f : Nat → Int64) : Nat := uN (f 5) / 2 ^ 41 % 2
def v_sz (f : Nat → Int64) : Nat := uN (f 5) / 2 ^ 31 % 1024
def v_pl (f : Nat → Int64) : Nat := uN (f 5) % 2 ^ 31
def v_key (f : Nat → Int64) : Nat := v_num f * 4096 + v_len f
def v_ord (f : Nat → Int64) : Nat := v_key f * 1024 + v_mom f
/-- a version at v, its words at w -/
def Ve (mem : j_M) (v w : Nat) (f : Nat → Int64) : Prop := mem.2.2 v = some (.inr (8, [.ref w])) ∧ mem.2.2 w = some (.inl (1, 6, .inr (.inl f)))
theorem v_len_lt (f : Nat → Int64) : v_len f < 4096 := by
  have := uN_lt' (f 5)
  unfold v_len
  omega
theorem x_Ve_words (d : Nat) {mem : j_M} {v w : Nat} {f : Nat → Int64} (h : Ve mem v w f) : j_ex tb (d + 1) m_Ve_words [.ref v] mem (.inl (some (.ref w))) mem := by
  refine ⟨e_Ve_words, rfl, Nat.le_of_ble_eq_true rfl, ?_⟩
  refine j_ev.go rfl ?_
  refine ev_gf rfl h.1 rfl rfl ?_
  exact j_ev.ret rfl
theorem x_Ve_length (d : Nat) {mem : j_M} {v w : Nat} {f : Nat → Int64} (h : Ve mem v w f) : j_ex tb (d + 1) m_Ve_length [.ref v] mem (.inl (some (.int (nI (v_len f))))) mem := by
  have e : ((f 5).toUInt64 >>> ((52 : Int32).toInt64.toUInt64 &&& Int64.toUInt64 63)).toInt64.toInt32 = nI (v_len f) := by
    have := w_shr (f 5) (k := 52) (by omega)
    rw [show ((52 : Int32).toInt64.toUInt64 &&& Int64.toUInt64 63) = ((nI 52).toInt64.toUInt64 &&& Int64.toUInt64 63) from rfl, this, lN_i]
    rfl
  rw [← e]
  refine ⟨e_Ve_length, rfl, Nat.le_of_ble_eq_true rfl, ?_⟩
  refine j_ev.go rfl ?_
  refine ev_gf rfl h.1 rfl rfl ?_
  refine j_ev.go rfl ?_
  refine ev_alj rfl h.2 rfl ?_
  refine j_ev.go rfl ?_
  refine j_ev.go rfl ?_
  refine j_ev.go rfl ?_
  exact j_ev.ret rfl
theorem w_and10 {n : Nat} (h : n < 2 ^ 32) : nI n &&& 1023 = nI (n % 1024) := pk_andN h 10 (by decide)
theorem x_Ve_moment (d : Nat) {mem : j_M} {v w : Nat} {f : Nat → Int64} (h : Ve mem v w f) : j_ex tb (d + 1) m_Ve_moment [.ref v] mem (.inl (some (.int (nI (v_mom f))))) mem := by
  have e : ((f 5).toUInt64 >>> ((42 : Int32).toInt64.toUInt64 &&& Int64.toUInt64 63)).toInt64.toInt32 &&& 1023 = nI (v_mom f) := by
    have := w_shr (f 5) (k := 42) (by omega)
    rw [show ((42 : Int32).toInt64.toUInt64 &&& Int64.toUInt64 63) = ((nI 42).toInt64.toUInt64 &&& Int64.toUInt64 63) from rfl, this, lN_i, w_and10]
    · rfl
    · have := uN_lt' (f 5)
      omega
  rw [← e]
  refine ⟨e_Ve_moment, rfl, Nat.le_of_ble_eq_true rfl, ?_⟩
  refine j_ev.go rfl ?_
  refine ev_gf rfl h.1 rfl rfl ?_
  refine j_ev.go rfl ?_
  refine ev_alj rfl h.2 rfl ?_
  repeat refine j_ev.go rfl ?_
  exact j_ev.ret rfl
theorem x_Ve_size (d : Nat) {mem : j_M} {v w : Nat} {f : Nat → Int64} (h : Ve mem v w f) : j_ex tb (d + 1) m_Ve_size [.ref v] mem (.inl (some (.int (nI (v_sz f))))) mem := by
  have e : ((f 5).toUInt64 >>> ((31 : Int32).toInt64.toUInt64 &&& Int64.toUInt64 63)).toInt64.toInt32 &&& 1023 = nI (v_sz f) := by
    have := w_shr (f 5) (k := 31) (by omega)
    rw [show ((31 : Int32).toInt64.toUInt64 &&& Int64.toUInt64 63) = ((nI 31).toInt64.toUInt64 &&& Int64.toUInt64 63) from rfl, this, lN_i]
    have e2 : nI (uN (f 5) / 2 ^ 31) = nI (uN (f 5) / 2 ^ 31 % 2 ^ 32) := by
      apply Int32.toBitVec_inj.mp
      apply BitVec.eq_of_toNat_eq
      show _ % 2 ^ 32 = _ % 2 ^ 32
      rw [Nat.mod_mod]
    rw [e2, w_and10 (Nat.mod_lt _ (by decide))]
    unfold v_sz
    congr 1
    omega
  rw [← e]
  refine ⟨e_Ve_size, rfl, Nat.le_of_ble_eq_true rfl, ?_⟩
  refine j_ev.go rfl ?_
  refine ev_gf rfl h.1 rfl rfl ?_
  refine j_ev.go rfl ?_
  refine ev_alj rfl h.2 rfl ?_
  repeat refine j_ev.go rfl ?_
  exact j_ev.ret rfl
theorem x_Ve_place (d : Nat) {mem : j_M} {v w : Nat} {f : Nat → Int64} (h : Ve mem v w f) : j_ex tb (d + 1) m_Ve_place [.ref v] mem (.inl (some (.int (nI (v_pl f))))) mem := by
  have e : (f 5).toInt32 &&& 2147483647 = nI (v_pl f) := by
    have e1 : (f 5).toInt32 = nI (uN (f 5) % 2 ^ 32) := by
      have := lN_i (uN (f 5))
      rw [lN_uN] at this
      rw [this]
      apply Int32.toBitVec_inj.mp
      apply BitVec.eq_of_toNat_eq
      show _ % 2 ^ 32 = _ % 2 ^ 32
      rw [Nat.mod_mod]
    rw [e1, pk_andN (Nat.mod_lt _ (by decide)) 31 (by decide)]
    unfold v_pl
    congr 1
    omega
  rw [← e]
  refine ⟨e_Ve_place, rfl, Nat.le_of_ble_eq_true rfl, ?_⟩
  refine j_ev.go rfl ?_
  refine ev_gf rfl h.1 rfl rfl ?_
  refine j_ev.go rfl ?_
  refine ev_alj rfl h.2 rfl ?_
  repeat refine j_ev.go rfl ?_
  exact j_ev.ret rfl
theorem x_Ve_isThere (d : Nat) {mem : j_M} {v w : Nat} {f : Nat → Int64} (h : Ve mem v w f) : j_ex tb (d + 1) m_Ve_isThere [.ref v] mem (.inl (some (.int (nI (v_th f))))) mem := by
  have e : ((f 5).toUInt64 >>> ((41 : Int32).toInt64.toUInt64 &&& Int64.toUInt64 63)).toInt64 &&& 1 = lN (v_th f) := by
    have := wb_bit (n := uN (f 5)) (k := 41) (uN_lt' (f 5)) (by omega)
    rw [lN_uN] at this
    exact this
  refine ⟨e_Ve_isThere, rfl, Nat.le_of_ble_eq_true rfl, ?_⟩
  refine j_ev.go rfl ?_
  refine ev_gf rfl h.1 rfl rfl ?_
  refine j_ev.go rfl ?_
  refine ev_alj rfl h.2 rfl ?_
  iterate 6 refine j_ev.go rfl ?_
  have hth : v_th f = 0 ∨ v_th f = 1 := by unfold v_th; omega
  rcases hth with h0 | h0
  · rw [h0] at e ⊢
    refine ev_ifT rfl (decide_eq_true ?_) ?_
    · show lg_cmp (((f 5).toUInt64 >>> ((41 : Int32).toInt64.toUInt64 &&& Int64.toUInt64 63)).toInt64 &&& 1) 0 = 0
      rw [e]
      decide
    · refine j_ev.go rfl ?_
      exact j_ev.ret rfl
  · rw [h0] at e ⊢
    refine ev_ifF rfl (decide_eq_false ?_) ?_
    · show ¬ lg_cmp (((f 5).toUInt64 >>> ((41 : Int32).toInt64.toUInt64 &&& Int64.toUInt64 63)).toInt64 &&& 1) 0 = 0
      rw [e]
      decide
    · refine j_ev.go rfl ?_
      refine j_ev.go rfl ?_
      exact j_ev.ret rfl
theorem x_Ve_copy (d : Nat) {mem : j_M} {v w v2 w2 : Nat} {f g : Nat → Int64} (h : Ve mem v w f) (h2 : Ve mem v2 w2 g) (hw : 4 ≤ w) (hw2 : 4 ≤ w2) : j_ex tb (d + 1) m_Ve_copy [.ref v, .ref v2] mem (.inl none) (j_set mem w (.inl (1, 6, .inr (.inl (va_cpy g f 0 0 6))))) := by
  refine ⟨e_Ve_copy, rfl, Nat.le_of_ble_eq_true rfl, ?_⟩
  refine j_ev.go rfl ?_
  refine ev_gf rfl h2.1 rfl rfl ?_
  iterate 2 refine j_ev.go rfl ?_
  refine ev_gf rfl h.1 rfl rfl ?_
  iterate 2 refine j_ev.go rfl ?_
  refine ev_cpl rfl h2.2 h.2 ?_ ?_
  · have a1 := Nat.ble_eq.mpr hw
    have a2 := Nat.ble_eq.mpr hw2
    unfold j_cpk
    rw [a1, a2]
    rfl
  · exact j_ev.ret rfl
theorem v_cpy {g f : Nat → Int64} {i : Nat} (h : i < 6) : va_cpy g f 0 0 6 i = g i := by
  unfold va_cpy
  rw [if_pos (by omega)]
  congr 1
  omega
theorem v_same {f g : Nat → Int64} (h : ∀ i, i < 6 → f i = g i) : v_num f = v_num g ∧ v_len f = v_len g ∧ v_mom f = v_mom g ∧ v_th f = v_th g ∧ v_sz f = v_sz g ∧ v_pl f = v_pl g ∧ v_key f = v_key g ∧ v_ord f = v_ord g := by
  unfold v_ord v_key v_num v_len v_mom v_th v_sz v_pl
  rw [h 0 (by omega), h 1 (by omega), h 2 (by omega), h 3 (by omega), h 4 (by omega), h 5 (by omega)]
  exact ⟨rfl, rfl, rfl, rfl, rfl, rfl, rfl, rfl⟩
def v_pk (l m t s p : Nat) : Nat := l * 2 ^ 52 + m * 2 ^ 42 + t * 2 ^ 41 + s * 2 ^ 31 + p
theorem v_pk_lt {l m t s p : Nat} (hl : l < 4096) (hm : m < 1024) (ht : t < 2) (hs : s < 1024) (hp : p < 2 ^ 31) : v_pk l m t s p < 2 ^ 64 := by
  unfold v_pk
  omega
theorem w_describe {l m t s p : Nat} (hl : l < 4096) (hm : m < 1024) (ht : t < 2) (hs : s < 1024) (hp : p < 2 ^ 31) :
    (((lN l <<< ((nI 52).toInt64 &&& 63) ||| lN m <<< ((nI 42).toInt64 &&& 63)) ||| lN t <<< ((nI 41).toInt64 &&& 63)) ||| lN s <<< ((nI 31).toInt64 &&& 63)) ||| lN p = lN (v_pk l m t s p) := by
  rw [wb_shl l (by omega : 52 < 64), wb_shl m (by omega : 42 < 64), wb_shl t (by omega : 41 < 64), wb_shl s (by omega : 31 < 64)]
  rw [g_or (k := 52) (p := 2 ^ 52) rfl (by omega : m * 2 ^ 42 < 2 ^ 52) (by omega)]
  rw [show l * 2 ^ 52 + m * 2 ^ 42 = (l * 1024 + m) * 2 ^ 42 by omega]
  rw [g_or (k := 42) (p := 2 ^ 42) rfl (by omega : t * 2 ^ 41 < 2 ^ 42) (by omega)]
  rw [show (l * 1024 + m) * 2 ^ 42 + t * 2 ^ 41 = ((l * 1024 + m) * 2 + t) * 2 ^ 41 by omega]
  rw [g_or (k := 41) (p := 2 ^ 41) rfl (by omega : s * 2 ^ 31 < 2 ^ 41) (by omega)]
  rw [show ((l * 1024 + m) * 2 + t) * 2 ^ 41 + s * 2 ^ 31 = (((l * 1024 + m) * 2 + t) * 1024 + s) * 2 ^ 31 by omega]
  rw [g_or (k := 31) (p := 2 ^ 31) rfl hp (by omega)]
  exact congrArg lN (by unfold v_pk; omega)
theorem x_Ve_describe (d : Nat) {mem : j_M} {v w : Nat} {f : Nat → Int64} {m t s p : Nat} (h : Ve mem v w f) (hw : 4 ≤ w) (hm : m < 1024) (ht : t < 2) (hs : s < 1024) (hp : p < 2 ^ 31) :
    j_ex tb (d + 2) m_Ve_describe [.ref v, .int (nI m), .int (nI t), .int (nI s), .int (nI p)] mem (.inl none) (j_set mem w (.inl (1, 6, .inr (.inl (vp_updL f 5 (lN (v_pk (v_len f) m t s p))))))) := by
  have hl := v_len_lt f
  rw [← w_describe hl hm ht hs hp]
  refine ⟨e_Ve_describe, rfl, Nat.le_of_ble_eq_true rfl, ?_⟩
  refine j_ev.go rfl ?_
  refine ev_gf rfl h.1 rfl rfl ?_
  iterate 2 refine j_ev.go rfl ?_
  refine ev_cv (as := []) rfl rfl rfl h.1 rfl rfl (x_Ve_length d h) ?_
  iterate 9 refine j_ev.go rfl ?_
  have key : ∀ x : Int64, x = lN t → j_ev (d + 2) (j_ex tb (d + 1)) (j_tab q_Ve_describe) [] (.inl none) (j_set mem w (.inl (1, 6, .inr (.inl (vp_updL f 5 ((((lN (v_len f) <<< ((nI 52).toInt64 &&& 63) ||| lN m <<< ((nI 42).toInt64 &&& 63)) ||| lN t <<< ((nI 41).toInt64 &&& 63)) ||| lN s <<< ((nI 31).toInt64 &&& 63)) ||| lN p)))))) 28 (j_en 5 [.ref v, .int (nI m), .int (nI t), .int (nI s), .int (nI p)]) [.long x, .long ((nI (v_len f)).toInt64 <<< ((52 : Int32).toInt64 &&& 63) ||| (nI m).toInt64 <<< ((42 : Int32).toInt64 &&& 63)), .int 5, .ref w] mem := by
    intro x hx
    subst hx
    rw [← nI_l (n := v_len f) (by omega), ← nI_l (n := m) (by omega), ← nI_l (n := s) (by omega), ← nI_l (n := p) (by omega)]
    iterate 11 refine j_ev.go rfl ?_
    refine ev_aj rfl h.2 rfl (Nat.ble_eq.mpr hw) ?_
    exact j_ev.ret rfl
  have htt : t = 0 ∨ t = 1 := by omega
  rcases htt with rfl | rfl
  · refine ev_ifT rfl rfl ?_
    refine j_ev.go rfl ?_
    exact key 0 rfl
  · refine ev_ifF rfl rfl ?_
    iterate 2 refine j_ev.go rfl ?_
    exact key 1 rfl
theorem x_Ve_setMoment (d : Nat) {mem : j_M} {v w : Nat} {f : Nat → Int64} {m : Nat} (h : Ve mem v w f) (hw : 4 ≤ w) (hm : m < 1024) :
    j_ex tb (d + 3) m_Ve_setMoment [.ref v, .int (nI m)] mem (.inl none) (j_set mem w (.inl (1, 6, .inr (.inl (vp_updL f 5 (lN (v_pk (v_len f) m 0 0 0))))))) := by
  refine ⟨e_Ve_setMoment, rfl, Nat.le_of_ble_eq_true rfl, ?_⟩
  iterate 5 refine j_ev.go rfl ?_
  refine ev_cv (as := [.int (nI m), .int (nI 0), .int (nI 0), .int (nI 0)]) rfl rfl rfl h.1 rfl rfl (x_Ve_describe d h hw hm (by omega) (by omega) (by omega)) ?_
  exact j_ev.ret rfl
/-- what the words say behind a describe -/
theorem v_desc {f : Nat → Int64} {m t s p : Nat} (hm : m < 1024) (ht : t < 2) (hs : s < 1024) (hp : p < 2 ^ 31) :
    v_num (vp_updL f 5 (lN (v_pk (v_len f) m t s p))) = v_num f ∧ v_len (vp_updL f 5 (lN (v_pk (v_len f) m t s p))) = v_len f ∧ v_mom (vp_updL f 5 (lN (v_pk (v_len f) m t s p))) = m ∧ v_th (vp_updL f 5 (lN (v_pk (v_len f) m t s p))) = t ∧ v_sz (vp_updL f 5 (lN (v_pk (v_len f) m t s p))) = s ∧ v_pl (vp_updL f 5 (lN (v_pk (v_len f) m t s p))) = p := by
  have hl := v_len_lt f
  have e5 : uN (vp_updL f 5 (lN (v_pk (v_len f) m t s p)) 5) = v_pk (v_len f) m t s p := by
    show uN (if 5 = 5 then _ else _) = _
    rw [if_pos rfl, uN_lN (v_pk_lt hl hm ht hs hp)]
  generalize hg : v_len f = l at *
  refine ⟨rfl, ?_, ?_, ?_, ?_, ?_⟩
  · unfold v_len; rw [e5]; unfold v_pk; omega
  · unfold v_mom; rw [e5]; unfold v_pk; omega
  · unfold v_th; rw [e5]; unfold v_pk; omega
  · unfold v_sz; rw [e5]; unfold v_pk; omega
  · unfold v_pl; rw [e5]; unfold v_pk; omega
/-- two words, their highest bit turned, compare as numbers without a sign -/
theorem w_x63 {m : Nat} (h : m < 2 ^ 63) : m ^^^ 2 ^ 63 = 2 ^ 63 + m := by
  apply Nat.eq_of_testBit_eq
  intro i
  rw [Nat.testBit_xor, Nat.testBit_two_pow]
  rcases Nat.lt_trichotomy i 63 with hi | hi | hi
  · rw [Nat.testBit_two_pow_add_gt hi]
    have : (decide (63 = i)) = false := by simp; omega
    rw [this, Bool.xor_false]
  · subst hi
    rw [Nat.testBit_two_pow_add_eq]
    simp
  · have h1 : m.testBit i = false := Nat.testBit_lt_two_pow (Nat.lt_trans h (Nat.pow_lt_pow_right (by decide) hi))
    have h2 : (2 ^ 63 + m).testBit i = false := Nat.testBit_lt_two_pow (by
      have : 2 ^ 64 ≤ 2 ^ i := Nat.pow_le_pow_right (by decide) hi
      omega)
    have : (decide (63 = i)) = false := by simp; omega
    rw [h1, h2, this]
    rfl
theorem w_flip (x : Int64) : (x ^^^ (-9223372036854775808)).toInt = (uN x : Int) - 2 ^ 63 := by
  have e : (x ^^^ (-9223372036854775808)).toBitVec.toNat = uN x ^^^ 2 ^ 63 := by
    rw [Int64.toBitVec_xor, BitVec.toNat_xor]
    rfl
  have hlt := uN_lt' x
  show ((x ^^^ (-9223372036854775808)).toBitVec).toInt = _
  rw [BitVec.toInt_eq_toNat_cond, e]
  by_cases h : uN x < 2 ^ 63
  · rw [w_x63 h, if_neg (by omega)]
    omega
  · have h2 : uN x - 2 ^ 63 < 2 ^ 63 := by omega
    have e2 : uN x ^^^ 2 ^ 63 = uN x - 2 ^ 63 := by
      have h3 := w_x63 h2
      have h4 : uN x = (uN x - 2 ^ 63) ^^^ 2 ^ 63 := by rw [h3]; omega
      have h5 : uN x ^^^ 2 ^ 63 = ((uN x - 2 ^ 63) ^^^ 2 ^ 63) ^^^ 2 ^ 63 := by rw [← h4]
      rw [h5, Nat.xor_assoc, Nat.xor_self, Nat.xor_zero]
    rw [e2, if_pos (by omega)]
    omega
theorem w_cmp (x y : Int64) : (lg_cmp (x ^^^ (-9223372036854775808)) (y ^^^ (-9223372036854775808)) = 0 ↔ uN x = uN y) ∧ (0 ≤ lg_cmp (x ^^^ (-9223372036854775808)) (y ^^^ (-9223372036854775808)) ↔ uN y ≤ uN x) := by
  have hx := w_flip x
  have hy := w_flip y
  unfold lg_cmp
  rcases Nat.lt_trichotomy (uN x) (uN y) with h | h | h
  · have h1 : ¬ (x ^^^ (-9223372036854775808)) > (y ^^^ (-9223372036854775808)) := by
      show ¬ (_ < _)
      rw [Int64.lt_iff_toInt_lt, hx, hy]; omega
    have h2 : ¬ (x ^^^ (-9223372036854775808)) = (y ^^^ (-9223372036854775808)) := by
      intro e
      rw [e, hy] at hx
      omega
    rw [if_neg h1, if_neg h2]
    exact ⟨⟨fun q => absurd q (by decide), fun q => by omega⟩, ⟨fun q => absurd q (by decide), fun q => by omega⟩⟩
  · have e : x = y := uN_inj h
    subst e
    have h1 : ¬ (x ^^^ (-9223372036854775808)) > (x ^^^ (-9223372036854775808)) := by
      show ¬ (_ < _)
      rw [Int64.lt_iff_toInt_lt]; omega
    rw [if_neg h1, if_pos rfl]
    exact ⟨⟨fun _ => rfl, fun _ => rfl⟩, ⟨fun _ => Nat.le_refl _, fun _ => by decide⟩⟩
  · have h1 : (x ^^^ (-9223372036854775808)) > (y ^^^ (-9223372036854775808)) := by
      show _ < _
      rw [Int64.lt_iff_toInt_lt, hx, hy]; omega
    rw [if_pos h1]
    exact ⟨⟨fun q => absurd q (by decide), fun q => by omega⟩, ⟨fun _ => by omega, fun _ => by decide⟩⟩
