/-! LEVELTABLES: readTapeFor (own text) -/
section READ2
variable {mem : j_M} {sh lv : Int32} {L P : Nat} {b : Nat → Int32} {s : Nat → Option Nat} {f : Nat → Int64}
/-- memory behind the tape's move to the key -/
def mvd (mem : j_M) (f' : Nat → Int64) : j_M := j_set (j_set mem 21 (vW f')) 5 (.inr (1, [.int (nI 0), .ref 6]))
theorem x_LT_read (d : Nat) {x : Int32} {m : Nat} (h : LT mem sh lv) (hT : Ta mem L b) (hL : L ≤ 40) (hV : Vw mem P s) (hk : Ve mem 20 21 f) (hm : m < 2 ^ 31) (hx : (x = -1 ∧ m = P) ∨ ∃ i, x = nI i ∧ i < 8 ∧ s i = some m) :
    ∃ f', kS b L f' ∧ j_ex tb (d + 4) m_LT_readTapeFor [.ref 4, .int x] mem (.inl (some (.int (nI m)))) (mvd mem f') := by
  obtain ⟨f', hf', km⟩ := x_Tp_moveTo d hT hk (by omega) (by omega) hL
  refine ⟨f', hf', ?_⟩
  have h1 : mem.2.2 4 = _ := h
  have h5 := hT.1
  have hV1 : Vw (mvd mem f') P s := hV
  have g4 : (mvd mem f').2.2 4 = _ := h
  have g7 := hV1.1
  have ko : j_ex tb (d + 3) m_Vi_momentOf [.ref 7, .int x] (mvd mem f') (.inl (some (.int (nI m)))) (mvd mem f') := by
    rcases hx with ⟨rfl, rfl⟩ | ⟨i, rfl, hi, hs⟩
    · exact x_Vi_momentOfP (d + 2) hV1
    · have := x_Vi_momentOf (d + 2) hV1 hi
      rw [hs] at this
      exact this
  refine ⟨e_LT_readTapeFor, rfl, Nat.le_of_ble_eq_true rfl, ?_⟩
  repeat (first | refine ev_go rfl (by rfl) ?_ | refine ev_gf rfl (by assumption) (by rfl) (by rfl) ?_)
  refine ev_cv (as := [.ref 20]) rfl rfl rfl (by assumption) (by rfl) (by rfl) (km) ?_
  refine ev_m (mem' := mvd mem f') rfl ?_
  repeat (first | refine ev_go rfl (by rfl) ?_ | refine ev_gf rfl (by assumption) (by rfl) (by rfl) ?_)
  refine ev_cv (as := [.int x]) rfl rfl rfl (by assumption) (by rfl) (by rfl) (ko) ?_
  repeat (first | refine ev_go rfl (by rfl) ?_ | refine ev_gf rfl (by assumption) (by rfl) (by rfl) ?_)
  refine ev_icT rfl (by exact decide_eq_true (vo_ne hm)) ?_
  repeat (first | refine ev_go rfl (by rfl) ?_ | refine ev_gf rfl (by assumption) (by rfl) (by rfl) ?_)
  exact j_ev.ret rfl
theorem x_LT_readT (d : Nat) (hd : 6 ≤ d) {i : Nat} (h : LT mem sh lv) (hT : Ta mem L b) (hL : L ≤ 40) (hV : Vw mem P s) (hk : Ve mem 20 21 f) (hi : i < 8) (hs : s i = none) :
    ∃ f', kS b L f' ∧ j_ex tb (d + 4) m_LT_readTapeFor [.ref 4, .int (nI i)] mem (.inr (1, mem.1)) (thr (mvd mem f')) := by
  obtain ⟨f', hf', km⟩ := x_Tp_moveTo d hT hk (by omega) (by omega) hL
  refine ⟨f', hf', ?_⟩
  have h1 : mem.2.2 4 = _ := h
  have h5 := hT.1
  have hV1 : Vw (mvd mem f') P s := hV
  have g4 : (mvd mem f').2.2 4 = _ := h
  have g7 := hV1.1
  have ko := x_Vi_momentOf (d + 2) hV1 hi
  rw [hs] at ko
  refine ⟨e_LT_readTapeFor, rfl, Nat.le_of_ble_eq_true rfl, ?_⟩
  repeat (first | refine ev_go rfl (by rfl) ?_ | refine ev_gf rfl (by assumption) (by rfl) (by rfl) ?_)
  refine ev_cv (as := [.ref 20]) rfl rfl rfl (by assumption) (by rfl) (by rfl) (km) ?_
  refine ev_m (mem' := mvd mem f') rfl ?_
  repeat (first | refine ev_go rfl (by rfl) ?_ | refine ev_gf rfl (by assumption) (by rfl) (by rfl) ?_)
  refine ev_cv (as := [.int (nI i)]) rfl rfl rfl (by assumption) (by rfl) (by rfl) (ko) ?_
  repeat (first | refine ev_go rfl (by rfl) ?_ | refine ev_gf rfl (by assumption) (by rfl) (by rfl) ?_)
  exact j_ev.throw (z := 1) (mem := mvd mem f') rfl (by omega)
end READ2
