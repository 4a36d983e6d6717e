/-! THE REFERENCE: bytes, its arrays against the history, enter (own text) -/
theorem sx8 {X Y : BitVec 32} (h : ∀ i, i < 8 → X.getLsbD i = Y.getLsbD i) : X.signExtend 8 = Y.signExtend 8 := by
  apply BitVec.eq_of_getLsbD_eq
  intro i hi
  rw [BitVec.getLsbD_signExtend, BitVec.getLsbD_signExtend]
  have : i < 32 := by omega
  have e := h i hi
  rw [BitVec.getLsbD_eq_getElem this, BitVec.getLsbD_eq_getElem this] at e
  simp [this, hi, e]
theorem sh8 (x : Int32) (s : Nat) (hs : s ≤ 24) (a b : BitVec 32) (ha : a = x.toBitVec >>> s) (hb : b = x.toBitVec.sshiftRight s) : a.signExtend 8 = b.signExtend 8 := by
  apply sx8
  intro i hi
  rw [ha, hb, BitVec.getLsbD_ushiftRight, BitVec.getLsbD_sshiftRight]
  have h1 : s + i < 32 := by omega
  have h2 : ¬ 32 ≤ i := by omega
  simp [h1, h2]
theorem tb8_24 (x : Int32) {k : Nat} (hk : k % 4 = 0) : tb8 x 24 = fb8 x k := by
  unfold tb8 fb8
  rw [hk]
  refine congrArg Int8.toInt32 (Int8.toBitVec_inj.mp ?_)
  exact sh8 x 24 (by omega) _ _ rfl rfl
theorem tb8_16 (x : Int32) {k : Nat} (hk : k % 4 = 1) : tb8 x 16 = fb8 x k := by
  unfold tb8 fb8
  rw [hk]
  refine congrArg Int8.toInt32 (Int8.toBitVec_inj.mp ?_)
  exact sh8 x 16 (by omega) _ _ rfl rfl
theorem tb8_8 (x : Int32) {k : Nat} (hk : k % 4 = 2) : tb8 x 8 = fb8 x k := by
  unfold tb8 fb8
  rw [hk]
  refine congrArg Int8.toInt32 (Int8.toBitVec_inj.mp ?_)
  exact sh8 x 8 (by omega) _ _ rfl rfl
theorem tb8_0 (x : Int32) {k : Nat} (hk : k % 4 = 3) : tb8 x 0 = fb8 x k := by
  unfold tb8 fb8
  rw [hk]
  refine congrArg Int8.toInt32 (Int8.toBitVec_inj.mp ?_)
  exact sh8 x 0 (by omega) _ _ rfl rfl
theorem ap4_in (b : Nat → Int32) (L : Nat) (x : Int32) {j : Nat} (hj : j < L) : ap4 b L x j = b j := by
  unfold ap4
  rw [upd_nat _ _ (by omega), upd_nat _ _ (by omega), upd_nat _ _ (by omega), upd_nat _ _ (by omega)]
theorem ap4_new (b : Nat → Int32) (L : Nat) (x : Int32) {k0 t : Nat} (hk : k0 % 4 = 0) (ht : t < 4) : ap4 b L x (L + t) = fb8 x (k0 + t) := by
  unfold ap4
  have : t = 0 ∨ t = 1 ∨ t = 2 ∨ t = 3 := by omega
  rcases this with rfl | rfl | rfl | rfl
  · rw [upd_nat _ _ (by omega), upd_nat _ _ (by omega), upd_nat _ _ (by omega), Nat.add_zero, upd_at]
    exact tb8_24 x (by omega)
  · rw [upd_nat _ _ (by omega), upd_nat _ _ (by omega), upd_at]
    exact tb8_16 x (by omega)
  · rw [upd_nat _ _ (by omega), upd_at]
    exact tb8_8 x (by omega)
  · rw [upd_at]
    exact tb8_0 x (by omega)
theorem fbs_at (b : Nat → Int32) (L : Nat) (x1 x2 x3 x4 x5 : Int32) : ∀ (n j : Nat), fbs b L x1 x2 x3 x4 x5 n j = if L ≤ j ∧ j < L + n then fb8 (fw x1 x2 x3 x4 x5 (j - L)) (j - L) else b j
  | 0, j => by rw [if_neg (by omega)]; rfl
  | n + 1, j => by
    show upd (fbs b L x1 x2 x3 x4 x5 n) (L + n) (fb8 (fw x1 x2 x3 x4 x5 n) n) j = _
    by_cases c : j = L + n
    · subst c
      rw [upd_at, if_pos (by omega), show L + n - L = n by omega]
    · rw [upd_nat _ _ c, fbs_at b L x1 x2 x3 x4 x5 n j]
      by_cases c2 : L ≤ j ∧ j < L + n
      · rw [if_pos c2, if_pos (by omega)]
      · rw [if_neg c2, if_neg (by omega)]
/-- both tapes hold the same behind a feed -/
theorem feed_same {b b' : Nat → Int32} {L : Nat} (h : ∀ j, j < L → b j = b' j) (x1 x2 x3 x4 x5 : Int32) : ∀ j, j < L + 20 → ap20 b L x1 x2 x3 x4 x5 j = fbs b' L x1 x2 x3 x4 x5 20 j := by
  intro j hj
  rw [fbs_at]
  unfold ap20
  by_cases c0 : j < L
  · rw [ap4_in _ _ _ (by omega), ap4_in _ _ _ (by omega), ap4_in _ _ _ (by omega), ap4_in _ _ _ (by omega), ap4_in _ _ _ c0, if_neg (by omega)]
    exact h j c0
  · rw [if_pos (by omega)]
    by_cases c1 : j < L + 4
    · rw [ap4_in _ _ _ (by omega), ap4_in _ _ _ (by omega), ap4_in _ _ _ (by omega), ap4_in _ _ _ (by omega)]
      have := ap4_new b L x1 (k0 := 0) (t := j - L) (by omega) (by omega)
      rw [show L + (j - L) = j by omega, Nat.zero_add] at this
      rw [this]
      unfold fw
      rw [if_pos (by omega)]
    · by_cases c2 : j < L + 8
      · rw [ap4_in _ _ _ (by omega), ap4_in _ _ _ (by omega), ap4_in _ _ _ (by omega)]
        have := ap4_new (ap4 b L x1) (L + 4) x2 (k0 := 4) (t := j - (L + 4)) (by omega) (by omega)
        rw [show L + 4 + (j - (L + 4)) = j by omega, show 4 + (j - (L + 4)) = j - L by omega] at this
        rw [this]
        unfold fw
        rw [if_neg (by omega), if_pos (by omega)]
      · by_cases c3 : j < L + 12
        · rw [ap4_in _ _ _ (by omega), ap4_in _ _ _ (by omega)]
          have := ap4_new (ap4 (ap4 b L x1) (L + 4) x2) (L + 8) x3 (k0 := 8) (t := j - (L + 8)) (by omega) (by omega)
          rw [show L + 8 + (j - (L + 8)) = j by omega, show 8 + (j - (L + 8)) = j - L by omega] at this
          rw [this]
          unfold fw
          rw [if_neg (by omega), if_neg (by omega), if_pos (by omega)]
        · by_cases c4 : j < L + 16
          · rw [ap4_in _ _ _ (by omega)]
            have := ap4_new (ap4 (ap4 (ap4 b L x1) (L + 4) x2) (L + 8) x3) (L + 12) x4 (k0 := 12) (t := j - (L + 12)) (by omega) (by omega)
            rw [show L + 12 + (j - (L + 12)) = j by omega, show 12 + (j - (L + 12)) = j - L by omega] at this
            rw [this]
            unfold fw
            rw [if_neg (by omega), if_neg (by omega), if_neg (by omega), if_pos (by omega)]
          · have := ap4_new (ap4 (ap4 (ap4 (ap4 b L x1) (L + 4) x2) (L + 8) x3) (L + 12) x4) (L + 16) x5 (k0 := 16) (t := j - (L + 16)) (by omega) (by omega)
            rw [show L + 16 + (j - (L + 16)) = j by omega, show 16 + (j - (L + 16)) = j - L by omega] at this
            rw [this]
            unfold fw
            rw [if_neg (by omega), if_neg (by omega), if_neg (by omega), if_neg (by omega)]
/-- bytes that are stored as they are -/
def Byt (b : Nat → Int32) : Prop := ∀ j, j_nb 2 (b j) = b j
theorem Byt_fbs {b : Nat → Int32} (h : Byt b) (L : Nat) (x1 x2 x3 x4 x5 : Int32) (n : Nat) : Byt (fbs b L x1 x2 x3 x4 x5 n) := by
  intro j
  rw [fbs_at]
  split
  · exact pk_vb _
  · exact h j
/-- the reference's arrays: keys, lengths, places, sizes -/
def Mar (mem : j_M) (K Ln Pl Sz : Nat → Int32) : Prop := mem.2.2 71 = some (.inl (2, 20000, .inl K)) ∧ mem.2.2 72 = some (.inl (0, 500, .inl Ln)) ∧ mem.2.2 73 = some (.inl (0, 500, .inl Pl)) ∧ mem.2.2 74 = some (.inl (0, 500, .inl Sz))
/-- they say the history's first P moments -/
def Mh (K Ln Pl Sz : Nat → Int32) (G : Nat → Nat → Int64) (P : Nat) : Prop := ∀ v, v < P → v_len (G (v + 1)) ≤ 40 ∧ Ln v = nI (v_len (G (v + 1))) ∧ v_num (G (v + 1)) = nm (tg (fun j => K (40 * v + j)) (v_len (G (v + 1)))) 40 ∧ (gT G (v + 1) = 1 → Pl v = nI (v_pl (G (v + 1))) ∧ Sz v = nI (v_sz (G (v + 1)))) ∧ (gT G (v + 1) = 0 → Sz v = -1)
section MBASE
variable {mem : j_M} {K Ln Pl Sz : Nat → Int32} {G : Nat → Nat → Int64} {P : Nat} {fa sd at' : Int32} {tp : Nat} {b : Nat → Int32}
theorem Mh_key (h : Mh K Ln Pl Sz G P) {v : Nat} (hv : v < P) : gK G (v + 1) = ky (fun j => K (40 * v + j)) (v_len (G (v + 1))) := by
  obtain ⟨-, -, h3, -⟩ := h v hv
  unfold gK v_key ky
  rw [h3]
theorem v_sz_lt (f : Nat → Int64) : v_sz f < 1024 := Nat.mod_lt _ (by decide)
theorem v_pl_lt (f : Nat → Int64) : v_pl f < 2 ^ 31 := Nat.mod_lt _ (by decide)
theorem Mh_sz (h : Mh K Ln Pl Sz G P) {v : Nat} (hv : v < P) : (0 ≤ Sz v ↔ gT G (v + 1) = 1) ∧ (Sz v < 0 ↔ gT G (v + 1) = 0) := by
  obtain ⟨-, -, -, h4, h5⟩ := h v hv
  rcases gT_01 G (v + 1) with c | c
  · rw [h5 c, c]
    decide
  · have hs := v_sz_lt (G (v + 1))
    rw [(h4 c).2, c]
    have h1 := nI_pos (n := v_sz (G (v + 1))) (by omega)
    have h2 := nI_pos' (n := v_sz (G (v + 1))) (by omega)
    constructor
    · exact ⟨fun _ => rfl, fun _ => h2⟩
    · exact ⟨fun q => absurd q h1, fun q => by omega⟩
/-- compareTape, by the history -/
theorem m_cmpT (d : Nat) {v n : Nat} {md : Nat} (hP : P ≤ 500) (h : Mo mem fa tp md sd at') (h70 : mem.2.2 70 = some (.inl (2, 60, .inl b))) (ha : Mar mem K Ln Pl Sz) (hh : Mh K Ln Pl Sz G P) (hv : v < P) (hn : n ≤ 40) :
    ∃ r : Int32, j_ex tb (d + 1) m_Mo_compareTape [.ref 69, .int (nI v), .int (nI n)] mem (.inl (some (.int r))) mem ∧ (r < 0 ↔ gK G (v + 1) < ky b n) ∧ (r = 0 ↔ gK G (v + 1) = ky b n) := by
  have hk := Mh_key hh hv
  obtain ⟨h1, h2, -⟩ := hh v hv
  rw [hk]
  exact x_Mo_compareTape d h h70 ha.1 ha.2.1 (by omega) h2 h1 hn
theorem m_cmp (d : Nat) {v w : Nat} {md : Nat} (hP : P ≤ 500) (h : Mo mem fa tp md sd at') (ha : Mar mem K Ln Pl Sz) (hh : Mh K Ln Pl Sz G P) (hv : v < P) (hw : w < P) :
    ∃ r : Int32, j_ex tb (d + 1) m_Mo_compare [.ref 69, .int (nI v), .int (nI w)] mem (.inl (some (.int r))) mem ∧ (r < 0 ↔ gK G (v + 1) < gK G (w + 1)) ∧ (r = 0 ↔ gK G (v + 1) = gK G (w + 1)) := by
  rw [Mh_key hh hv, Mh_key hh hw]
  obtain ⟨h1, h2, -⟩ := hh v hv
  obtain ⟨g1, g2, -⟩ := hh w hw
  exact x_Mo_compare d h ha.1 ha.2.1 (by omega) (by omega) h2 g2 h1 g1
end MBASE
