/-! TAPE (own text) -/
/-- the tape: how long, its bytes -/
def Ta (mem : j_M) (L : Nat) (b : Nat → Int32) : Prop := mem.2.2 5 = some (.inr (1, [.int (nI L), .ref 6])) ∧ mem.2.2 6 = some (.inl (2, 60, .inl b))
theorem x_Tp_length (d : Nat) {mem : j_M} {L : Nat} {b : Nat → Int32} (h : Ta mem L b) : j_ex tb (d + 1) m_Tp_length [.ref 5] mem (.inl (some (.int (nI L)))) mem := by
  have h1 := h.1
  refine ⟨e_Tp_length, rfl, Nat.le_of_ble_eq_true rfl, ?_⟩
  repeat (first | refine ev_go rfl (by rfl) ?_ | refine ev_gf rfl (by assumption) (by rfl) (by rfl) ?_)
  exact j_ev.ret rfl
theorem x_Tp_hasKey (d : Nat) {mem : j_M} {L : Nat} {b : Nat → Int32} (h : Ta mem L b) (hL : L ≤ 60) : j_ex tb (d + 1) m_Tp_hasKey [.ref 5] mem (.inl (some (.int (if 1 ≤ L ∧ L ≤ 40 then 1 else 0)))) mem := by
  have h1 := h.1
  refine ⟨e_Tp_hasKey, rfl, Nat.le_of_ble_eq_true rfl, ?_⟩
  repeat (first | refine ev_go rfl (by rfl) ?_ | refine ev_gf rfl (by assumption) (by rfl) (by rfl) ?_)
  by_cases c1 : L < 1
  · refine ev_icT rfl (by exact b_lt (a := L) (b := 1) (by omega) (by omega) (by omega)) ?_
    repeat (first | refine ev_go rfl (by rfl) ?_ | refine ev_gf rfl (by assumption) (by rfl) (by rfl) ?_)
    rw [if_neg (by omega)]
    exact j_ev.ret rfl
  · refine ev_icF rfl (by exact b_nlt (a := L) (b := 1) (by omega) (by omega) (by omega)) ?_
    repeat (first | refine ev_go rfl (by rfl) ?_ | refine ev_gf rfl (by assumption) (by rfl) (by rfl) ?_)
    by_cases c2 : 40 < L
    · refine ev_icT rfl (by exact b_lt (a := 40) (b := L) (by omega) (by omega) (by omega)) ?_
      repeat (first | refine ev_go rfl (by rfl) ?_ | refine ev_gf rfl (by assumption) (by rfl) (by rfl) ?_)
      rw [if_neg (by omega)]
      exact j_ev.ret rfl
    · refine ev_icF rfl (by exact b_nlt (a := 40) (b := L) (by omega) (by omega) (by omega)) ?_
      repeat (first | refine ev_go rfl (by rfl) ?_ | refine ev_gf rfl (by assumption) (by rfl) (by rfl) ?_)
      rw [if_pos (by omega)]
      exact j_ev.ret rfl
theorem x_Tp_cut (d : Nat) {mem : j_M} {L n : Nat} {b : Nat → Int32} (h : Ta mem L b) : j_ex tb (d + 1) m_Tp_cut [.ref 5, .int (nI n)] mem (.inl none) (j_set mem 5 (.inr (1, [.int (nI n), .ref 6]))) := by
  have h1 := h.1
  refine ⟨e_Tp_cut, rfl, Nat.le_of_ble_eq_true rfl, ?_⟩
  repeat (first | refine ev_go rfl (by rfl) ?_ | refine ev_gf rfl (by assumption) (by rfl) (by rfl) ?_)
  refine ev_pf rfl (by assumption) (by rfl) (by rfl) (by rfl) ?_
  exact j_ev.ret rfl
theorem Ta_cut {mem : j_M} {L n : Nat} {b : Nat → Int32} (h : Ta mem L b) : Ta (j_set mem 5 (.inr (1, [.int (nI n), .ref 6]))) n b := ⟨rfl, h.2⟩
def tset (mem : j_M) (L : Nat) (b : Nat → Int32) : j_M := j_set (j_set mem 6 (.inl (2, 60, .inl b))) 5 (.inr (1, [.int (nI L), .ref 6]))
theorem Ta_tset (mem : j_M) (L : Nat) (b : Nat → Int32) : Ta (tset mem L b) L b := ⟨rfl, rfl⟩
theorem tset2 (mem : j_M) (L L' : Nat) (b b' : Nat → Int32) : tset (tset mem L b) L' b' = tset mem L' b' := by
  unfold tset
  rw [st_cm (j_set mem 6 _) (a := 5) (b := 6) (by decide), st_st, st_st]
/-- a byte of four -/
def tb8 (x s : Int32) : Int32 := (x.toUInt32 >>> (s.toUInt32 &&& Int32.toUInt32 31)).toInt32.toInt8.toInt32
def ap4 (b : Nat → Int32) (L : Nat) (x : Int32) : Nat → Int32 := upd (upd (upd (upd b L (tb8 x 24)) (L + 1) (tb8 x 16)) (L + 2) (tb8 x 8)) (L + 3) (tb8 x 0)
theorem x_Tp_append (d : Nat) {mem : j_M} {L : Nat} {b : Nat → Int32} (h : Ta mem L b) (hL : L + 4 ≤ 60) (x : Int32) : j_ex tb (d + 1) m_Tp_append [.ref 5, .int x] mem (.inl none) (tset mem (L + 4) (ap4 b L x)) := by
  have stp : ∀ (s : Int32) (m : j_M) (K : Nat) (c : Nat → Int32) (mo : j_M), Ta m K c → K < 60 → ¬ s < 0 → j_ev (d + 1) (j_ex tb (d + 0)) (j_tab q_Tp_append) [] (.inl none) (mo) 3 [some (.ref 5), some (.int x), some (.int (s + (-8)))] [] (tset m (K + 1) (upd c K (tb8 x s))) → j_ev (d + 1) (j_ex tb (d + 0)) (j_tab q_Tp_append) [] (.inl none) (mo) 3 [some (.ref 5), some (.int x), some (.int s)] [] m := by
    intro s m K c mo hT hK hs kk
    have h1 := hT.1
    have h2 := hT.2
    repeat (first | refine ev_go rfl (by rfl) ?_ | refine ev_gf rfl (by assumption) (by rfl) (by rfl) ?_)
    refine ev_ifF rfl (by exact decide_eq_false hs) ?_
    repeat (first | refine ev_go rfl (by rfl) ?_ | refine ev_gf rfl (by assumption) (by rfl) (by rfl) ?_)
    refine ev_icF rfl (by exact b_nle (a := 60) (b := K) (by omega) (by omega) (by omega)) ?_
    repeat (first | refine ev_go rfl (by rfl) ?_ | refine ev_gf rfl (by assumption) (by rfl) (by rfl) ?_)
    refine ev_abN (i := K) rfl (by assumption) (by rfl) (by omega) (by omega) (by omega) ?_
    rw [show j_nb 2 (((x.toUInt32 >>> (s.toUInt32 &&& Int32.toUInt32 31)).toInt32).toInt8.toInt32) = tb8 x s from pk_vb _]
    have h3 : (j_set m 6 (.inl (2, 60, .inl (upd c K (tb8 x s))))).2.2 5 = some (.inr (1, [.int (nI K), .ref 6])) := h1
    repeat (first | refine ev_go rfl (by rfl) ?_ | refine ev_gf rfl (by assumption) (by rfl) (by rfl) ?_)
    refine ev_pf rfl (by assumption) (by rfl) (by rfl) (by rfl) ?_
    unfold tset at kk
    rw [← nI_1 K] at kk
    repeat (first | exact kk | refine ev_go rfl (by rfl) ?_ | refine ev_gf rfl (by assumption) (by rfl) (by rfl) ?_)
  refine ⟨e_Tp_append, rfl, Nat.le_of_ble_eq_true rfl, ?_⟩
  iterate 2 refine j_ev.go rfl ?_
  refine stp 24 _ L b _ h (by omega) (by decide) ?_
  refine stp 16 _ (L + 1) _ _ (Ta_tset _ _ _) (by omega) (by decide) ?_
  refine stp 8 _ (L + 2) _ _ (Ta_tset _ _ _) (by omega) (by decide) ?_
  refine stp 0 _ (L + 3) _ _ (Ta_tset _ _ _) (by omega) (by decide) ?_
  rw [tset2, tset2, tset2]
  repeat (first | refine ev_go rfl (by rfl) ?_ | refine ev_gf rfl (by assumption) (by rfl) (by rfl) ?_)
  exact j_ev.ret rfl
/-- an array filled up to k -/
def flJ (f : Nat → Int64) (k : Nat) (x : Int64) : Nat → Int64 := fun j => if j < k then x else f j
theorem flJ_0 (f : Nat → Int64) (x : Int64) : flJ f 0 x = f := rfl
theorem flJ_s (f : Nat → Int64) (k : Nat) (x : Int64) : vp_updL (flJ f k x) k x = flJ f (k + 1) x := by
  funext j
  by_cases h : j = k
  · subst h; rw [pk_uLs]; unfold flJ; rw [if_pos (by omega)]
  · rw [pk_uLn h]; unfold flJ
    by_cases h2 : j < k
    · rw [if_pos h2, if_pos (by omega)]
    · rw [if_neg h2, if_neg (by omega)]
theorem x_Ar_fillJ (d : Nat) {mem : j_M} {a n : Nat} {f : Nat → Int64} (h : mem.2.2 a = some (.inl (1, n, .inr (.inl f)))) (ha : 4 ≤ a) (hn : n < 2 ^ 31) (x : Int64) : j_ex tb (d + 1) m_Ar_fill_2aJ [.ref a, .long x] mem (.inl none) (j_set mem a (.inl (1, n, .inr (.inl (flJ f n x))))) := by
  have loop : ∀ (k i : Nat), i + k = n → j_ev (d + 1) (j_ex tb (d + 0)) (j_tab q_Ar_fill_2aJ) [] (.inl none) (j_set mem a (.inl (1, n, .inr (.inl (flJ f n x))))) 6 [some (.ref a), some (.long x), none, some (.int (nI i)), some (.int (nI n))] [] (j_set mem a (.inl (1, n, .inr (.inl (flJ f i x))))) := by
    intro k
    induction k with
    | zero =>
      intro i hi
      have hi : i = n := by omega
      subst hi
      repeat (first | refine ev_go rfl (by rfl) ?_ | refine ev_gf rfl (by assumption) (by rfl) (by rfl) ?_)
      refine ev_icT rfl (by exact b_le (a := i) (b := i) (by omega) (by omega) (by omega)) ?_
      exact j_ev.ret rfl
    | succ k ih =>
      intro i hi
      have h1 : (j_set mem a (.inl (1, n, .inr (.inl (flJ f i x))))).2.2 a = some (.inl (1, n, .inr (.inl (flJ f i x)))) := st_same _ _ _
      repeat (first | refine ev_go rfl (by rfl) ?_ | refine ev_gf rfl (by assumption) (by rfl) (by rfl) ?_)
      refine ev_icF rfl (by exact b_nle (a := n) (b := i) (by omega) (by omega) (by omega)) ?_
      repeat (first | refine ev_go rfl (by rfl) ?_ | refine ev_gf rfl (by assumption) (by rfl) (by rfl) ?_)
      refine ev_ajN (i := i) rfl (by assumption) (by omega) (by omega) (by omega) ?_
      rw [st_st, flJ_s]
      have k1 := ih (i + 1) (by omega)
      rw [← nI_1 i] at k1
      repeat (first | exact k1 | refine ev_go rfl (by rfl) ?_ | refine ev_gf rfl (by assumption) (by rfl) (by rfl) ?_)
  have k0 := loop n 0 (by omega)
  rw [flJ_0, st_id h] at k0
  refine ⟨e_Ar_fill_2aJ, rfl, Nat.le_of_ble_eq_true rfl, ?_⟩
  repeat (first | refine ev_go rfl (by rfl) ?_ | refine ev_gf rfl (by assumption) (by rfl) (by rfl) ?_)
  refine ev_an rfl (by assumption) (by rfl) ?_
  repeat (first | exact k0 | refine ev_go rfl (by rfl) ?_ | refine ev_gf rfl (by assumption) (by rfl) (by rfl) ?_)
def flI (f : Nat → Int32) (k : Nat) (x : Int32) : Nat → Int32 := fun j => if j < k then x else f j
theorem flI_0 (f : Nat → Int32) (x : Int32) : flI f 0 x = f := rfl
theorem flI_s (f : Nat → Int32) (k : Nat) (x : Int32) : upd (flI f k x) k x = flI f (k + 1) x := by
  funext j
  by_cases h : j = k
  · subst h; rw [pk_us]; unfold flI; rw [if_pos (by omega)]
  · rw [pk_un h]; unfold flI
    by_cases h2 : j < k
    · rw [if_pos h2, if_pos (by omega)]
    · rw [if_neg h2, if_neg (by omega)]
theorem x_Ar_fillI (d : Nat) {mem : j_M} {a n : Nat} {f : Nat → Int32} (h : mem.2.2 a = some (.inl (0, n, .inl f))) (ha : 4 ≤ a) (hn : n < 2 ^ 31) (x : Int32) : j_ex tb (d + 1) m_Ar_fill_2aI [.ref a, .int x] mem (.inl none) (j_set mem a (.inl (0, n, .inl (flI f n x)))) := by
  have loop : ∀ (k i : Nat), i + k = n → j_ev (d + 1) (j_ex tb (d + 0)) (j_tab q_Ar_fill_2aI) [] (.inl none) (j_set mem a (.inl (0, n, .inl (flI f n x)))) 5 [some (.ref a), some (.int x), some (.int (nI i)), some (.int (nI n))] [] (j_set mem a (.inl (0, n, .inl (flI f i x)))) := by
    intro k
    induction k with
    | zero =>
      intro i hi
      have hi : i = n := by omega
      subst hi
      repeat (first | refine ev_go rfl (by rfl) ?_ | refine ev_gf rfl (by assumption) (by rfl) (by rfl) ?_)
      refine ev_icT rfl (by exact b_le (a := i) (b := i) (by omega) (by omega) (by omega)) ?_
      exact j_ev.ret rfl
    | succ k ih =>
      intro i hi
      have h1 : (j_set mem a (.inl (0, n, .inl (flI f i x)))).2.2 a = some (.inl (0, n, .inl (flI f i x))) := st_same _ _ _
      repeat (first | refine ev_go rfl (by rfl) ?_ | refine ev_gf rfl (by assumption) (by rfl) (by rfl) ?_)
      refine ev_icF rfl (by exact b_nle (a := n) (b := i) (by omega) (by omega) (by omega)) ?_
      repeat (first | refine ev_go rfl (by rfl) ?_ | refine ev_gf rfl (by assumption) (by rfl) (by rfl) ?_)
      refine ev_aiN (i := i) rfl (by assumption) (by omega) (by omega) (by omega) ?_
      rw [st_st, flI_s]
      have k1 := ih (i + 1) (by omega)
      rw [← nI_1 i] at k1
      repeat (first | exact k1 | refine ev_go rfl (by rfl) ?_ | refine ev_gf rfl (by assumption) (by rfl) (by rfl) ?_)
  have k0 := loop n 0 (by omega)
  rw [flI_0, st_id h] at k0
  refine ⟨e_Ar_fill_2aI, rfl, Nat.le_of_ble_eq_true rfl, ?_⟩
  repeat (first | refine ev_go rfl (by rfl) ?_ | refine ev_gf rfl (by assumption) (by rfl) (by rfl) ?_)
  refine ev_an rfl (by assumption) (by rfl) ?_
  repeat (first | exact k0 | refine ev_go rfl (by rfl) ?_ | refine ev_gf rfl (by assumption) (by rfl) (by rfl) ?_)

/-- a byte as a number -/
def byN (x : Int32) : Nat := uN x.toInt64 % 256
theorem byN_lt (x : Int32) : byN x < 256 := Nat.mod_lt _ (by decide)
theorem byN_and (x : Int32) : x.toInt64 &&& 255 = lN (byN x) := by
  have := g_mask (a := uN x.toInt64) (s := 8) (p := 256) rfl (by decide) (uN_lt' _)
  rw [lN_uN] at this
  exact this
def W8 (h : Nat → Nat) : Nat := ((((((h 0 * 256 + h 1) * 256 + h 2) * 256 + h 3) * 256 + h 4) * 256 + h 5) * 256 + h 6) * 256 + h 7
/-- the bytes of the tape, none behind n -/
def tg (b : Nat → Int32) (n : Nat) (j : Nat) : Nat := if j < n then byN (b j) else 0
def wd (g : Nat → Nat) (w : Nat) : Nat := W8 (fun t => g (8 * w + t))
theorem tg_lt (b : Nat → Int32) (n j : Nat) : tg b n j < 256 := by
  unfold tg
  split
  · exact byN_lt _
  · decide
theorem w8_or {X a p k W W' : Nat} (hp : 2 ^ k = p) (ha : a < p) (hW : W = X * p) (hW' : W' = X * p + a) (hlt : W' < 2 ^ 64) : lN W ||| lN a = lN W' := by
  subst hW
  subst hW'
  exact g_or hp ha hlt
theorem tg_in {b : Nat → Int32} {n j : Nat} (h : j < n) : tg b n j = byN (b j) := if_pos h
theorem tg_out {b : Nat → Int32} {n j : Nat} (h : n ≤ j) : tg b n j = 0 := if_neg (by omega)
theorem wd_step (b : Nat → Int32) (w t : Nat) (ht : t < 8) : lN (wd (tg b (8 * w + t)) w) ||| lN (byN (b (8 * w + t)) * 2 ^ (56 - 8 * t)) = lN (wd (tg b (8 * w + t + 1)) w) := by
  have h0 := byN_lt (b (8 * w + 0)); have h1 := byN_lt (b (8 * w + 1)); have h2 := byN_lt (b (8 * w + 2)); have h3 := byN_lt (b (8 * w + 3))
  have h4 := byN_lt (b (8 * w + 4)); have h5 := byN_lt (b (8 * w + 5)); have h6 := byN_lt (b (8 * w + 6)); have h7 := byN_lt (b (8 * w + 7))
  have hc : t = 0 ∨ t = 1 ∨ t = 2 ∨ t = 3 ∨ t = 4 ∨ t = 5 ∨ t = 6 ∨ t = 7 := by omega
  unfold wd W8
  dsimp only
  rcases hc with rfl | rfl | rfl | rfl | rfl | rfl | rfl | rfl
  · rw [tg_out (j := 8 * w + 0) (n := 8 * w + 0) (by omega), tg_out (j := 8 * w + 1) (n := 8 * w + 0) (by omega), tg_out (j := 8 * w + 2) (n := 8 * w + 0) (by omega), tg_out (j := 8 * w + 3) (n := 8 * w + 0) (by omega), tg_out (j := 8 * w + 4) (n := 8 * w + 0) (by omega), tg_out (j := 8 * w + 5) (n := 8 * w + 0) (by omega), tg_out (j := 8 * w + 6) (n := 8 * w + 0) (by omega), tg_out (j := 8 * w + 7) (n := 8 * w + 0) (by omega), tg_in (j := 8 * w + 0) (n := 8 * w + 0 + 1) (by omega), tg_out (j := 8 * w + 1) (n := 8 * w + 0 + 1) (by omega), tg_out (j := 8 * w + 2) (n := 8 * w + 0 + 1) (by omega), tg_out (j := 8 * w + 3) (n := 8 * w + 0 + 1) (by omega), tg_out (j := 8 * w + 4) (n := 8 * w + 0 + 1) (by omega), tg_out (j := 8 * w + 5) (n := 8 * w + 0 + 1) (by omega), tg_out (j := 8 * w + 6) (n := 8 * w + 0 + 1) (by omega), tg_out (j := 8 * w + 7) (n := 8 * w + 0 + 1) (by omega)]
    exact w8_or (X := 0) (k := 64) (p := 2 ^ 64) rfl (by omega) (by omega) (by omega) (by omega)
  · rw [tg_in (j := 8 * w + 0) (n := 8 * w + 1) (by omega), tg_out (j := 8 * w + 1) (n := 8 * w + 1) (by omega), tg_out (j := 8 * w + 2) (n := 8 * w + 1) (by omega), tg_out (j := 8 * w + 3) (n := 8 * w + 1) (by omega), tg_out (j := 8 * w + 4) (n := 8 * w + 1) (by omega), tg_out (j := 8 * w + 5) (n := 8 * w + 1) (by omega), tg_out (j := 8 * w + 6) (n := 8 * w + 1) (by omega), tg_out (j := 8 * w + 7) (n := 8 * w + 1) (by omega), tg_in (j := 8 * w + 0) (n := 8 * w + 1 + 1) (by omega), tg_in (j := 8 * w + 1) (n := 8 * w + 1 + 1) (by omega), tg_out (j := 8 * w + 2) (n := 8 * w + 1 + 1) (by omega), tg_out (j := 8 * w + 3) (n := 8 * w + 1 + 1) (by omega), tg_out (j := 8 * w + 4) (n := 8 * w + 1 + 1) (by omega), tg_out (j := 8 * w + 5) (n := 8 * w + 1 + 1) (by omega), tg_out (j := 8 * w + 6) (n := 8 * w + 1 + 1) (by omega), tg_out (j := 8 * w + 7) (n := 8 * w + 1 + 1) (by omega)]
    exact w8_or (X := byN (b (8 * w + 0))) (k := 56) (p := 2 ^ 56) rfl (by omega) (by omega) (by omega) (by omega)
  · rw [tg_in (j := 8 * w + 0) (n := 8 * w + 2) (by omega), tg_in (j := 8 * w + 1) (n := 8 * w + 2) (by omega), tg_out (j := 8 * w + 2) (n := 8 * w + 2) (by omega), tg_out (j := 8 * w + 3) (n := 8 * w + 2) (by omega), tg_out (j := 8 * w + 4) (n := 8 * w + 2) (by omega), tg_out (j := 8 * w + 5) (n := 8 * w + 2) (by omega), tg_out (j := 8 * w + 6) (n := 8 * w + 2) (by omega), tg_out (j := 8 * w + 7) (n := 8 * w + 2) (by omega), tg_in (j := 8 * w + 0) (n := 8 * w + 2 + 1) (by omega), tg_in (j := 8 * w + 1) (n := 8 * w + 2 + 1) (by omega), tg_in (j := 8 * w + 2) (n := 8 * w + 2 + 1) (by omega), tg_out (j := 8 * w + 3) (n := 8 * w + 2 + 1) (by omega), tg_out (j := 8 * w + 4) (n := 8 * w + 2 + 1) (by omega), tg_out (j := 8 * w + 5) (n := 8 * w + 2 + 1) (by omega), tg_out (j := 8 * w + 6) (n := 8 * w + 2 + 1) (by omega), tg_out (j := 8 * w + 7) (n := 8 * w + 2 + 1) (by omega)]
    exact w8_or (X := (byN (b (8 * w + 0))) * 256 + byN (b (8 * w + 1))) (k := 48) (p := 2 ^ 48) rfl (by omega) (by omega) (by omega) (by omega)
  · rw [tg_in (j := 8 * w + 0) (n := 8 * w + 3) (by omega), tg_in (j := 8 * w + 1) (n := 8 * w + 3) (by omega), tg_in (j := 8 * w + 2) (n := 8 * w + 3) (by omega), tg_out (j := 8 * w + 3) (n := 8 * w + 3) (by omega), tg_out (j := 8 * w + 4) (n := 8 * w + 3) (by omega), tg_out (j := 8 * w + 5) (n := 8 * w + 3) (by omega), tg_out (j := 8 * w + 6) (n := 8 * w + 3) (by omega), tg_out (j := 8 * w + 7) (n := 8 * w + 3) (by omega), tg_in (j := 8 * w + 0) (n := 8 * w + 3 + 1) (by omega), tg_in (j := 8 * w + 1) (n := 8 * w + 3 + 1) (by omega), tg_in (j := 8 * w + 2) (n := 8 * w + 3 + 1) (by omega), tg_in (j := 8 * w + 3) (n := 8 * w + 3 + 1) (by omega), tg_out (j := 8 * w + 4) (n := 8 * w + 3 + 1) (by omega), tg_out (j := 8 * w + 5) (n := 8 * w + 3 + 1) (by omega), tg_out (j := 8 * w + 6) (n := 8 * w + 3 + 1) (by omega), tg_out (j := 8 * w + 7) (n := 8 * w + 3 + 1) (by omega)]
    exact w8_or (X := ((byN (b (8 * w + 0))) * 256 + byN (b (8 * w + 1))) * 256 + byN (b (8 * w + 2))) (k := 40) (p := 2 ^ 40) rfl (by omega) (by omega) (by omega) (by omega)
  · rw [tg_in (j := 8 * w + 0) (n := 8 * w + 4) (by omega), tg_in (j := 8 * w + 1) (n := 8 * w + 4) (by omega), tg_in (j := 8 * w + 2) (n := 8 * w + 4) (by omega), tg_in (j := 8 * w + 3) (n := 8 * w + 4) (by omega), tg_out (j := 8 * w + 4) (n := 8 * w + 4) (by omega), tg_out (j := 8 * w + 5) (n := 8 * w + 4) (by omega), tg_out (j := 8 * w + 6) (n := 8 * w + 4) (by omega), tg_out (j := 8 * w + 7) (n := 8 * w + 4) (by omega), tg_in (j := 8 * w + 0) (n := 8 * w + 4 + 1) (by omega), tg_in (j := 8 * w + 1) (n := 8 * w + 4 + 1) (by omega), tg_in (j := 8 * w + 2) (n := 8 * w + 4 + 1) (by omega), tg_in (j := 8 * w + 3) (n := 8 * w + 4 + 1) (by omega), tg_in (j := 8 * w + 4) (n := 8 * w + 4 + 1) (by omega), tg_out (j := 8 * w + 5) (n := 8 * w + 4 + 1) (by omega), tg_out (j := 8 * w + 6) (n := 8 * w + 4 + 1) (by omega), tg_out (j := 8 * w + 7) (n := 8 * w + 4 + 1) (by omega)]
    exact w8_or (X := (((byN (b (8 * w + 0))) * 256 + byN (b (8 * w + 1))) * 256 + byN (b (8 * w + 2))) * 256 + byN (b (8 * w + 3))) (k := 32) (p := 2 ^ 32) rfl (by omega) (by omega) (by omega) (by omega)
  · rw [tg_in (j := 8 * w + 0) (n := 8 * w + 5) (by omega), tg_in (j := 8 * w + 1) (n := 8 * w + 5) (by omega), tg_in (j := 8 * w + 2) (n := 8 * w + 5) (by omega), tg_in (j := 8 * w + 3) (n := 8 * w + 5) (by omega), tg_in (j := 8 * w + 4) (n := 8 * w + 5) (by omega), tg_out (j := 8 * w + 5) (n := 8 * w + 5) (by omega), tg_out (j := 8 * w + 6) (n := 8 * w + 5) (by omega), tg_out (j := 8 * w + 7) (n := 8 * w + 5) (by omega), tg_in (j := 8 * w + 0) (n := 8 * w + 5 + 1) (by omega), tg_in (j := 8 * w + 1) (n := 8 * w + 5 + 1) (by omega), tg_in (j := 8 * w + 2) (n := 8 * w + 5 + 1) (by omega), tg_in (j := 8 * w + 3) (n := 8 * w + 5 + 1) (by omega), tg_in (j := 8 * w + 4) (n := 8 * w + 5 + 1) (by omega), tg_in (j := 8 * w + 5) (n := 8 * w + 5 + 1) (by omega), tg_out (j := 8 * w + 6) (n := 8 * w + 5 + 1) (by omega), tg_out (j := 8 * w + 7) (n := 8 * w + 5 + 1) (by omega)]
    exact w8_or (X := ((((byN (b (8 * w + 0))) * 256 + byN (b (8 * w + 1))) * 256 + byN (b (8 * w + 2))) * 256 + byN (b (8 * w + 3))) * 256 + byN (b (8 * w + 4))) (k := 24) (p := 2 ^ 24) rfl (by omega) (by omega) (by omega) (by omega)
  · rw [tg_in (j := 8 * w + 0) (n := 8 * w + 6) (by omega), tg_in (j := 8 * w + 1) (n := 8 * w + 6) (by omega), tg_in (j := 8 * w + 2) (n := 8 * w + 6) (by omega), tg_in (j := 8 * w + 3) (n := 8 * w + 6) (by omega), tg_in (j := 8 * w + 4) (n := 8 * w + 6) (by omega), tg_in (j := 8 * w + 5) (n := 8 * w + 6) (by omega), tg_out (j := 8 * w + 6) (n := 8 * w + 6) (by omega), tg_out (j := 8 * w + 7) (n := 8 * w + 6) (by omega), tg_in (j := 8 * w + 0) (n := 8 * w + 6 + 1) (by omega), tg_in (j := 8 * w + 1) (n := 8 * w + 6 + 1) (by omega), tg_in (j := 8 * w + 2) (n := 8 * w + 6 + 1) (by omega), tg_in (j := 8 * w + 3) (n := 8 * w + 6 + 1) (by omega), tg_in (j := 8 * w + 4) (n := 8 * w + 6 + 1) (by omega), tg_in (j := 8 * w + 5) (n := 8 * w + 6 + 1) (by omega), tg_in (j := 8 * w + 6) (n := 8 * w + 6 + 1) (by omega), tg_out (j := 8 * w + 7) (n := 8 * w + 6 + 1) (by omega)]
    exact w8_or (X := (((((byN (b (8 * w + 0))) * 256 + byN (b (8 * w + 1))) * 256 + byN (b (8 * w + 2))) * 256 + byN (b (8 * w + 3))) * 256 + byN (b (8 * w + 4))) * 256 + byN (b (8 * w + 5))) (k := 16) (p := 2 ^ 16) rfl (by omega) (by omega) (by omega) (by omega)
  · rw [tg_in (j := 8 * w + 0) (n := 8 * w + 7) (by omega), tg_in (j := 8 * w + 1) (n := 8 * w + 7) (by omega), tg_in (j := 8 * w + 2) (n := 8 * w + 7) (by omega), tg_in (j := 8 * w + 3) (n := 8 * w + 7) (by omega), tg_in (j := 8 * w + 4) (n := 8 * w + 7) (by omega), tg_in (j := 8 * w + 5) (n := 8 * w + 7) (by omega), tg_in (j := 8 * w + 6) (n := 8 * w + 7) (by omega), tg_out (j := 8 * w + 7) (n := 8 * w + 7) (by omega), tg_in (j := 8 * w + 0) (n := 8 * w + 7 + 1) (by omega), tg_in (j := 8 * w + 1) (n := 8 * w + 7 + 1) (by omega), tg_in (j := 8 * w + 2) (n := 8 * w + 7 + 1) (by omega), tg_in (j := 8 * w + 3) (n := 8 * w + 7 + 1) (by omega), tg_in (j := 8 * w + 4) (n := 8 * w + 7 + 1) (by omega), tg_in (j := 8 * w + 5) (n := 8 * w + 7 + 1) (by omega), tg_in (j := 8 * w + 6) (n := 8 * w + 7 + 1) (by omega), tg_in (j := 8 * w + 7) (n := 8 * w + 7 + 1) (by omega)]
    exact w8_or (X := ((((((byN (b (8 * w + 0))) * 256 + byN (b (8 * w + 1))) * 256 + byN (b (8 * w + 2))) * 256 + byN (b (8 * w + 3))) * 256 + byN (b (8 * w + 4))) * 256 + byN (b (8 * w + 5))) * 256 + byN (b (8 * w + 6))) (k := 8) (p := 2 ^ 8) rfl (by omega) (by omega) (by omega) (by omega)
theorem wd_other (b : Nat → Int32) (i w : Nat) (h : w ≠ i / 8) : wd (tg b (i + 1)) w = wd (tg b i) w := by
  have e : ∀ t, t < 8 → tg b (i + 1) (8 * w + t) = tg b i (8 * w + t) := by
    intro t ht
    unfold tg
    by_cases c : 8 * w + t < i
    · rw [if_pos c, if_pos (by omega)]
    · rw [if_neg c, if_neg (by omega)]
  unfold wd W8
  dsimp only
  rw [e 0 (by omega), e 1 (by omega), e 2 (by omega), e 3 (by omega), e 4 (by omega), e 5 (by omega), e 6 (by omega), e 7 (by omega)]
