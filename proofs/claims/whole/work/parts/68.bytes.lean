/-! VERSION: byteAt, eightBytes (own text) -/
def vb (f : Nat → Int64) (i : Nat) : Nat := if i < 40 then uN (f (i / 8)) / 2 ^ (56 - 8 * (i % 8)) % 256 else 0
theorem vb_lt (f : Nat → Int64) (i : Nat) : vb f i < 256 := by
  unfold vb
  split
  · exact Nat.mod_lt _ (by decide)
  · decide
theorem x_Ve_byteAt (d : Nat) {mem : j_M} {v w i : Nat} {f : Nat → Int64} (h : Ve mem v w f) (hi : i < 2 ^ 31) : j_ex tb (d + 1) m_Ve_byteAt [.ref v, .int (nI i)] mem (.inl (some (.long (lN (vb f i))))) mem := by
  have h1 := h.1
  have h2 := h.2
  by_cases c : i < 40
  · have e3 := w_s3 (i := i) hi
    have e : ((f (i / 8)).toUInt64 >>> ((((56 : Int32) - 8 * (nI i &&& 7))).toInt64.toUInt64 &&& Int64.toUInt64 63)).toInt64 &&& 255 = lN (vb f i) := by
      rw [w_sk c, w_shr _ (by omega)]
      unfold vb
      rw [if_pos c]
      refine g_mask (s := 8) (p := 256) rfl (by decide) ?_
      exact Nat.lt_of_le_of_lt (Nat.div_le_self _ _) (uN_lt' _)
    rw [← e]
    refine ⟨e_Ve_byteAt, rfl, Nat.le_of_ble_eq_true rfl, ?_⟩
    repeat (first | refine ev_go rfl (by rfl) ?_ | refine ev_gf rfl (by assumption) (by rfl) (by rfl) ?_)
    refine ev_ifF rfl (by exact b_nlt (a := i) (b := 0) (by omega) (by omega) (by omega)) ?_
    repeat (first | refine ev_go rfl (by rfl) ?_ | refine ev_gf rfl (by assumption) (by rfl) (by rfl) ?_)
    refine ev_icT rfl (by exact b_lt (a := i) (b := 40) (by omega) (by omega) (by omega)) ?_
    repeat (first | refine ev_go rfl (by rfl) ?_ | refine ev_gf rfl (by assumption) (by rfl) (by rfl) ?_)
    refine ev_s (st' := [.int (nI (i / 8)), .ref w]) (by rw [← e3]) ?_
    refine ev_aljN (i := i / 8) rfl (by assumption) (by omega) (by omega) ?_
    repeat (first | refine ev_go rfl (by rfl) ?_ | refine ev_gf rfl (by assumption) (by rfl) (by rfl) ?_)
    exact j_ev.ret rfl
  · have e : lN (vb f i) = 0 := by
      unfold vb
      rw [if_neg c]
      rfl
    rw [e]
    refine ⟨e_Ve_byteAt, rfl, Nat.le_of_ble_eq_true rfl, ?_⟩
    repeat (first | refine ev_go rfl (by rfl) ?_ | refine ev_gf rfl (by assumption) (by rfl) (by rfl) ?_)
    refine ev_ifF rfl (by exact b_nlt (a := i) (b := 0) (by omega) (by omega) (by omega)) ?_
    repeat (first | refine ev_go rfl (by rfl) ?_ | refine ev_gf rfl (by assumption) (by rfl) (by rfl) ?_)
    refine ev_icF rfl (by exact b_nlt (a := i) (b := 40) (by omega) (by omega) (by omega)) ?_
    repeat (first | refine ev_go rfl (by rfl) ?_ | refine ev_gf rfl (by assumption) (by rfl) (by rfl) ?_)
    exact j_ev.ret rfl
def e8 (f : Nat → Int64) (x : Nat) : Nat → Nat
  | 0 => 0
  | t + 1 => e8 f x t * 256 + vb f (x + t)
theorem e8_lt (f : Nat → Int64) (x : Nat) : ∀ t, e8 f x t < 256 ^ t
  | 0 => by show 0 < 1; decide
  | t + 1 => by
    have h1 := e8_lt f x t
    have h2 := vb_lt f (x + t)
    show e8 f x t * 256 + vb f (x + t) < 256 ^ (t + 1)
    rw [Nat.pow_succ]
    omega
theorem x_Ve_eightBytes (d : Nat) {mem : j_M} {v w x : Nat} {f : Nat → Int64} (h : Ve mem v w f) (hx : x < 2 ^ 30) : j_ex tb (d + 2) m_Ve_eightBytes [.ref v, .int (nI x)] mem (.inl (some (.long (lN (e8 f x 8))))) mem := by
  have h1 := h.1
  have loop : ∀ (q t : Nat), t + q = 8 → j_ev (d + 2) (j_ex tb (d + 1)) (j_tab q_Ve_eightBytes) [] (.inl (some (.long (lN (e8 f x 8))))) (mem) 5 [some (.ref v), some (.int (nI x)), some (.long (lN (e8 f x t))), none, some (.int (nI (x + t)))] [] mem := by
    intro q
    induction q with
    | zero =>
      intro t ht
      have ht : t = 8 := by omega
      subst ht
      repeat (first | refine ev_go rfl (by rfl) ?_ | refine ev_gf rfl (by assumption) (by rfl) (by rfl) ?_)
      refine ev_s (st' := [.int (nI (x + 8)), .int (nI (x + 8))]) (by rw [← nI_add x 8]; rfl) ?_
      refine ev_icT rfl (by exact b_le (a := x + 8) (b := x + 8) (by omega) (by omega) (by omega)) ?_
      repeat (first | refine ev_go rfl (by rfl) ?_ | refine ev_gf rfl (by assumption) (by rfl) (by rfl) ?_)
      exact j_ev.ret rfl
    | succ q ih =>
      intro t ht
      have k1 := ih (t + 1) (by omega)
      have hb := x_Ve_byteAt d (i := x + t) h (by omega)
      have l1 := e8_lt f x t
      have l2 := vb_lt f (x + t)
      have hp : 256 ^ t ≤ 256 ^ 7 := Nat.pow_le_pow_right (by decide) (by omega)
      have e : lN (e8 f x t) <<< ((8 : Int32).toInt64 &&& 63) ||| lN (vb f (x + t)) = lN (e8 f x (t + 1)) := by
        rw [show ((8 : Int32).toInt64 &&& 63) = ((nI 8).toInt64 &&& 63) from rfl, wb_shl _ (by omega)]
        exact g_or (k := 8) (p := 256) rfl l2 (by omega)
      rw [← e, show x + (t + 1) = x + t + 1 by omega, ← nI_1 (x + t)] at k1
      repeat (first | refine ev_go rfl (by rfl) ?_ | refine ev_gf rfl (by assumption) (by rfl) (by rfl) ?_)
      refine ev_s (st' := [.int (nI (x + 8)), .int (nI (x + t))]) (by rw [← nI_add x 8]; rfl) ?_
      refine ev_icF rfl (by exact b_nle (a := x + 8) (b := x + t) (by omega) (by omega) (by omega)) ?_
      repeat (first | refine ev_go rfl (by rfl) ?_ | refine ev_gf rfl (by assumption) (by rfl) (by rfl) ?_)
      refine ev_cv (as := [.int (nI (x + t))]) rfl rfl rfl (by assumption) (by rfl) (by rfl) (hb) ?_
      repeat (first | exact k1 | refine ev_go rfl (by rfl) ?_ | refine ev_gf rfl (by assumption) (by rfl) (by rfl) ?_)
  have k0 := loop 8 0 (by omega)
  refine ⟨e_Ve_eightBytes, rfl, Nat.le_of_ble_eq_true rfl, ?_⟩
  repeat (first | exact k0 | refine ev_go rfl (by rfl) ?_ | refine ev_gf rfl (by assumption) (by rfl) (by rfl) ?_)
