/-! LEVELTABLES: feed, end, open, close (own text) -/
/-- memory behind a throw -/
def thr (mem : j_M) : j_M := (mem.1 + 1, mem.2.1 + 6, va_up mem.2.2 mem.1 none)
section PUB
variable {mem : j_M} {sh lv : Int32} {L P : Nat} {b : Nat → Int32} {s : Nat → Option Nat}
def ap20 (b : Nat → Int32) (L : Nat) (x1 x2 x3 x4 x5 : Int32) : Nat → Int32 := ap4 (ap4 (ap4 (ap4 (ap4 b L x1) (L + 4) x2) (L + 8) x3) (L + 12) x4) (L + 16) x5
theorem x_LT_feed (d : Nat) (h : LT mem sh lv) (hT : Ta mem L b) (hL : L + 20 ≤ 60) (x1 x2 x3 x4 x5 : Int32) : j_ex tb (d + 2) m_LT_feed [.ref 4, .int x1, .int x2, .int x3, .int x4, .int x5] mem (.inl (some (.int (nI (L + 20))))) (tset mem (L + 20) (ap20 b L x1 x2 x3 x4 x5)) := by
  have h1 : mem.2.2 4 = _ := h
  have h5 := hT.1
  have g4 : ∀ K c, (tset mem K c).2.2 4 = _ := fun K c => h
  have g5 : ∀ K c, (tset mem K c).2.2 5 = some (.inr (1, [.int (nI K), .ref 6])) := fun K c => rfl
  have k1 := x_Tp_append d hT (by omega) x1
  have k2 := x_Tp_append d (Ta_tset mem (L + 4) (ap4 b L x1)) (by omega) x2
  have k3 := x_Tp_append d (Ta_tset mem (L + 8) (ap4 (ap4 b L x1) (L + 4) x2)) (by omega) x3
  have k4 := x_Tp_append d (Ta_tset mem (L + 12) (ap4 (ap4 (ap4 b L x1) (L + 4) x2) (L + 8) x3)) (by omega) x4
  have k5 := x_Tp_append d (Ta_tset mem (L + 16) (ap4 (ap4 (ap4 (ap4 b L x1) (L + 4) x2) (L + 8) x3) (L + 12) x4)) (by omega) x5
  rw [tset2, show L + 4 + 4 = L + 8 by omega] at k2
  rw [tset2, show L + 8 + 4 = L + 12 by omega] at k3
  rw [tset2, show L + 12 + 4 = L + 16 by omega] at k4
  rw [tset2, show L + 16 + 4 = L + 20 by omega] at k5
  change j_ex tb (d + 1) m_Tp_append [.ref 5, .int x5] _ (.inl none) (tset mem (L + 20) (ap20 b L x1 x2 x3 x4 x5)) at k5
  generalize ap20 b L x1 x2 x3 x4 x5 = c5 at *
  generalize ap4 (ap4 (ap4 (ap4 b L x1) (L + 4) x2) (L + 8) x3) (L + 12) x4 = c4 at *
  generalize ap4 (ap4 (ap4 b L x1) (L + 4) x2) (L + 8) x3 = c3 at *
  generalize ap4 (ap4 b L x1) (L + 4) x2 = c2 at *
  generalize ap4 b L x1 = c1 at *
  have k6 := x_Tp_length d (Ta_tset mem (L + 20) c5)
  have a1 := g4 (L + 4) c1
  have a2 := g4 (L + 8) c2
  have a3 := g4 (L + 12) c3
  have a4 := g4 (L + 16) c4
  have a5 := g4 (L + 20) c5
  have e1 := g5 (L + 4) c1
  have e2 := g5 (L + 8) c2
  have e3 := g5 (L + 12) c3
  have e4 := g5 (L + 16) c4
  have e5 := g5 (L + 20) c5
  generalize tset mem (L + 4) c1 = m1 at *
  generalize tset mem (L + 8) c2 = m2 at *
  generalize tset mem (L + 12) c3 = m3 at *
  generalize tset mem (L + 16) c4 = m4 at *
  generalize tset mem (L + 20) c5 = m5 at *
  refine ⟨e_LT_feed, rfl, Nat.le_of_ble_eq_true rfl, ?_⟩
  repeat (first | refine ev_go rfl (by rfl) ?_ | refine ev_gf rfl (by assumption) (by rfl) (by rfl) ?_)
  refine ev_cv (as := []) rfl rfl rfl (by assumption) (by rfl) (by rfl) (x_Tp_length d hT) ?_
  repeat (first | refine ev_go rfl (by rfl) ?_ | refine ev_gf rfl (by assumption) (by rfl) (by rfl) ?_)
  refine ev_s (st' := [.int (nI 60), .int (nI (L + 20))]) (by rw [← nI_add L 20]; rfl) ?_
  refine ev_icT rfl (by exact b_le (a := L + 20) (b := 60) (by omega) (by omega) (by omega)) ?_
  repeat (first | refine ev_go rfl (by rfl) ?_ | refine ev_gf rfl (by assumption) (by rfl) (by rfl) ?_)
  refine ev_cv (as := [.int x1]) rfl rfl rfl (by assumption) (by rfl) (by rfl) (k1) ?_
  repeat (first | refine ev_go rfl (by rfl) ?_ | refine ev_gf rfl (by assumption) (by rfl) (by rfl) ?_)
  refine ev_cv (as := [.int x2]) rfl rfl rfl (by assumption) (by rfl) (by rfl) (k2) ?_
  repeat (first | refine ev_go rfl (by rfl) ?_ | refine ev_gf rfl (by assumption) (by rfl) (by rfl) ?_)
  refine ev_cv (as := [.int x3]) rfl rfl rfl (by assumption) (by rfl) (by rfl) (k3) ?_
  repeat (first | refine ev_go rfl (by rfl) ?_ | refine ev_gf rfl (by assumption) (by rfl) (by rfl) ?_)
  refine ev_cv (as := [.int x4]) rfl rfl rfl (by assumption) (by rfl) (by rfl) (k4) ?_
  repeat (first | refine ev_go rfl (by rfl) ?_ | refine ev_gf rfl (by assumption) (by rfl) (by rfl) ?_)
  refine ev_cv (as := [.int x5]) rfl rfl rfl (by assumption) (by rfl) (by rfl) (k5) ?_
  repeat (first | refine ev_go rfl (by rfl) ?_ | refine ev_gf rfl (by assumption) (by rfl) (by rfl) ?_)
  refine ev_cv (as := []) rfl rfl rfl (by assumption) (by rfl) (by rfl) (k6) ?_
  exact j_ev.ret rfl
theorem x_LT_feedT (d : Nat) (hd : 6 ≤ d) (h : LT mem sh lv) (hT : Ta mem L b) (hL : 60 < L + 20) (hL2 : L ≤ 60) (x1 x2 x3 x4 x5 : Int32) : j_ex tb (d + 2) m_LT_feed [.ref 4, .int x1, .int x2, .int x3, .int x4, .int x5] mem (.inr (2, mem.1)) (thr mem) := by
  have h1 : mem.2.2 4 = _ := h
  have h5 := hT.1
  refine ⟨e_LT_feed, rfl, Nat.le_of_ble_eq_true rfl, ?_⟩
  repeat (first | refine ev_go rfl (by rfl) ?_ | refine ev_gf rfl (by assumption) (by rfl) (by rfl) ?_)
  refine ev_cv (as := []) rfl rfl rfl (by assumption) (by rfl) (by rfl) (x_Tp_length d hT) ?_
  repeat (first | refine ev_go rfl (by rfl) ?_ | refine ev_gf rfl (by assumption) (by rfl) (by rfl) ?_)
  refine ev_s (st' := [.int (nI 60), .int (nI (L + 20))]) (by rw [← nI_add L 20]; rfl) ?_
  refine ev_icF rfl (by exact b_nle (a := L + 20) (b := 60) (by omega) (by omega) (by omega)) ?_
  exact j_ev.throw rfl (by omega)
theorem x_LT_end (d : Nat) {n : Nat} (h : LT mem sh lv) (hT : Ta mem L b) (hL : L ≤ 60) (hn : n ≤ L) : j_ex tb (d + 2) m_LT_end [.ref 4, .int (nI n)] mem (.inl (some (.int (nI n)))) (j_set mem 5 (.inr (1, [.int (nI n), .ref 6]))) := by
  have h1 : mem.2.2 4 = _ := h
  have h5 := hT.1
  refine ⟨e_LT_end, rfl, Nat.le_of_ble_eq_true rfl, ?_⟩
  repeat (first | refine ev_go rfl (by rfl) ?_ | refine ev_gf rfl (by assumption) (by rfl) (by rfl) ?_)
  refine ev_ifF rfl (by exact b_nlt (a := n) (b := 0) (by omega) (by omega) (by omega)) ?_
  repeat (first | refine ev_go rfl (by rfl) ?_ | refine ev_gf rfl (by assumption) (by rfl) (by rfl) ?_)
  refine ev_cv (as := []) rfl rfl rfl (by assumption) (by rfl) (by rfl) (x_Tp_length d hT) ?_
  refine ev_icT rfl (by exact b_le (a := n) (b := L) (by omega) (by omega) (by omega)) ?_
  repeat (first | refine ev_go rfl (by rfl) ?_ | refine ev_gf rfl (by assumption) (by rfl) (by rfl) ?_)
  refine ev_cv (as := [.int (nI n)]) rfl rfl rfl (by assumption) (by rfl) (by rfl) (x_Tp_cut d hT) ?_
  repeat (first | refine ev_go rfl (by rfl) ?_ | refine ev_gf rfl (by assumption) (by rfl) (by rfl) ?_)
  exact j_ev.ret rfl
theorem x_LT_endT (d : Nat) (hd : 6 ≤ d) {x : Int32} (h : LT mem sh lv) (hT : Ta mem L b) (hL : L ≤ 60) (hx : x < 0 ∨ ∃ n, x = nI n ∧ n < 2 ^ 31 ∧ L < n) : j_ex tb (d + 2) m_LT_end [.ref 4, .int x] mem (.inr (0, mem.1)) (thr mem) := by
  have h1 : mem.2.2 4 = _ := h
  have h5 := hT.1
  rcases hx with hx | ⟨n, rfl, hn, hx⟩
  · refine ⟨e_LT_end, rfl, Nat.le_of_ble_eq_true rfl, ?_⟩
    repeat (first | refine ev_go rfl (by rfl) ?_ | refine ev_gf rfl (by assumption) (by rfl) (by rfl) ?_)
    refine ev_ifT rfl (by exact decide_eq_true hx) ?_
    exact j_ev.throw rfl (by omega)
  · refine ⟨e_LT_end, rfl, Nat.le_of_ble_eq_true rfl, ?_⟩
    repeat (first | refine ev_go rfl (by rfl) ?_ | refine ev_gf rfl (by assumption) (by rfl) (by rfl) ?_)
    refine ev_ifF rfl (by exact b_nlt (a := n) (b := 0) (by omega) (by omega) (by omega)) ?_
    repeat (first | refine ev_go rfl (by rfl) ?_ | refine ev_gf rfl (by assumption) (by rfl) (by rfl) ?_)
    refine ev_cv (as := []) rfl rfl rfl (by assumption) (by rfl) (by rfl) (x_Tp_length d hT) ?_
    refine ev_icF rfl (by exact b_nle (a := n) (b := L) (by omega) (by omega) (by omega)) ?_
    exact j_ev.throw rfl (by omega)
theorem vo_ne {m : Nat} (h : m < 2 ^ 31) : ¬ nI m = (-1 : Int32) := fun q => by
  have := nI_pos h
  rw [q] at this
  exact this (by decide)
theorem x_LT_open (d : Nat) {i : Nat} (h : LT mem sh lv) (hV : Vw mem P s) (hi : i < 8) (hs : s i = none) : j_ex tb (d + 2) m_LT_open [.ref 4, .int (nI i)] mem (.inl (some (.int (nI P)))) (j_set mem 8 (.inl (0, 8, .inl (fun j => vo (va_up s i (some P) j))))) := by
  have h1 : mem.2.2 4 = _ := h
  have h7 := hV.1
  have km := x_Vi_momentOf d hV hi
  rw [hs] at km
  have kb := x_Vi_begin d hV hi
  have hV2 : Vw (j_set mem 8 (.inl (0, 8, .inl (fun j => vo (va_up s i (some P) j))))) P (va_up s i (some P)) := ⟨hV.1, rfl⟩
  have g4 : (j_set mem 8 (.inl (0, 8, .inl (fun j => vo (va_up s i (some P) j))))).2.2 4 = _ := h
  have g7 := hV2.1
  refine ⟨e_LT_open, rfl, Nat.le_of_ble_eq_true rfl, ?_⟩
  repeat (first | refine ev_go rfl (by rfl) ?_ | refine ev_gf rfl (by assumption) (by rfl) (by rfl) ?_)
  refine ev_ifF rfl (by exact b_nlt (a := i) (b := 0) (by omega) (by omega) (by omega)) ?_
  repeat (first | refine ev_go rfl (by rfl) ?_ | refine ev_gf rfl (by assumption) (by rfl) (by rfl) ?_)
  refine ev_icT rfl (by exact b_lt (a := i) (b := 8) (by omega) (by omega) (by omega)) ?_
  repeat (first | refine ev_go rfl (by rfl) ?_ | refine ev_gf rfl (by assumption) (by rfl) (by rfl) ?_)
  refine ev_cv (as := [.int (nI i)]) rfl rfl rfl (by assumption) (by rfl) (by rfl) (km) ?_
  repeat (first | refine ev_go rfl (by rfl) ?_ | refine ev_gf rfl (by assumption) (by rfl) (by rfl) ?_)
  refine ev_cv (as := [.int (nI i)]) rfl rfl rfl (by assumption) (by rfl) (by rfl) (kb) ?_
  repeat (first | refine ev_go rfl (by rfl) ?_ | refine ev_gf rfl (by assumption) (by rfl) (by rfl) ?_)
  refine ev_cv (as := []) rfl rfl rfl (by assumption) (by rfl) (by rfl) (x_Vi_present d hV2) ?_
  exact j_ev.ret rfl
theorem x_LT_openT (d : Nat) (hd : 6 ≤ d) {i m : Nat} (h : LT mem sh lv) (hV : Vw mem P s) (hi : i < 8) (hs : s i = some m) (hm : m < 2 ^ 31) : j_ex tb (d + 2) m_LT_open [.ref 4, .int (nI i)] mem (.inr (1, mem.1)) (thr mem) := by
  have h1 : mem.2.2 4 = _ := h
  have h7 := hV.1
  have km := x_Vi_momentOf d hV hi
  rw [hs] at km
  refine ⟨e_LT_open, rfl, Nat.le_of_ble_eq_true rfl, ?_⟩
  repeat (first | refine ev_go rfl (by rfl) ?_ | refine ev_gf rfl (by assumption) (by rfl) (by rfl) ?_)
  refine ev_ifF rfl (by exact b_nlt (a := i) (b := 0) (by omega) (by omega) (by omega)) ?_
  repeat (first | refine ev_go rfl (by rfl) ?_ | refine ev_gf rfl (by assumption) (by rfl) (by rfl) ?_)
  refine ev_icT rfl (by exact b_lt (a := i) (b := 8) (by omega) (by omega) (by omega)) ?_
  repeat (first | refine ev_go rfl (by rfl) ?_ | refine ev_gf rfl (by assumption) (by rfl) (by rfl) ?_)
  refine ev_cv (as := [.int (nI i)]) rfl rfl rfl (by assumption) (by rfl) (by rfl) (km) ?_
  repeat (first | refine ev_go rfl (by rfl) ?_ | refine ev_gf rfl (by assumption) (by rfl) (by rfl) ?_)
  refine ev_icF rfl (by exact decide_eq_false (vo_ne hm)) ?_
  exact j_ev.throw rfl (by omega)
theorem x_LT_openR (d : Nat) (hd : 6 ≤ d) {x : Int32} (hx : x < 0 ∨ nI 8 ≤ x) : j_ex tb (d + 2) m_LT_open [.ref 4, .int x] mem (.inr (0, mem.1)) (thr mem) := by
  by_cases c : x < 0
  · refine ⟨e_LT_open, rfl, Nat.le_of_ble_eq_true rfl, ?_⟩
    repeat (first | refine ev_go rfl (by rfl) ?_ | refine ev_gf rfl (by assumption) (by rfl) (by rfl) ?_)
    refine ev_ifT rfl (by exact decide_eq_true c) ?_
    exact j_ev.throw rfl (by omega)
  · have hx : nI 8 ≤ x := hx.resolve_left c
    refine ⟨e_LT_open, rfl, Nat.le_of_ble_eq_true rfl, ?_⟩
    repeat (first | refine ev_go rfl (by rfl) ?_ | refine ev_gf rfl (by assumption) (by rfl) (by rfl) ?_)
    refine ev_ifF rfl (by exact decide_eq_false c) ?_
    repeat (first | refine ev_go rfl (by rfl) ?_ | refine ev_gf rfl (by assumption) (by rfl) (by rfl) ?_)
    refine ev_icF rfl (by exact decide_eq_false (fun q => by
      rw [Int32.lt_iff_toInt_lt] at q
      rw [Int32.le_iff_toInt_le] at hx
      have e : (8 : Int32).toInt = (nI 8).toInt := rfl
      omega)) ?_
    exact j_ev.throw rfl (by omega)
theorem x_LT_close (d : Nat) {i m : Nat} (h : LT mem sh lv) (hV : Vw mem P s) (hi : i < 8) (hs : s i = some m) (hm : m < 2 ^ 31) : j_ex tb (d + 2) m_LT_close [.ref 4, .int (nI i)] mem (.inl (some (.int (nI m)))) (j_set mem 8 (.inl (0, 8, .inl (fun j => vo (va_up s i none j))))) := by
  have h1 : mem.2.2 4 = _ := h
  have h7 := hV.1
  have km := x_Vi_momentOf d hV hi
  rw [hs] at km
  have kb := x_Vi_finish d hV hi
  refine ⟨e_LT_close, rfl, Nat.le_of_ble_eq_true rfl, ?_⟩
  repeat (first | refine ev_go rfl (by rfl) ?_ | refine ev_gf rfl (by assumption) (by rfl) (by rfl) ?_)
  refine ev_ifF rfl (by exact b_nlt (a := i) (b := 0) (by omega) (by omega) (by omega)) ?_
  repeat (first | refine ev_go rfl (by rfl) ?_ | refine ev_gf rfl (by assumption) (by rfl) (by rfl) ?_)
  refine ev_icT rfl (by exact b_lt (a := i) (b := 8) (by omega) (by omega) (by omega)) ?_
  repeat (first | refine ev_go rfl (by rfl) ?_ | refine ev_gf rfl (by assumption) (by rfl) (by rfl) ?_)
  refine ev_cv (as := [.int (nI i)]) rfl rfl rfl (by assumption) (by rfl) (by rfl) (km) ?_
  repeat (first | refine ev_go rfl (by rfl) ?_ | refine ev_gf rfl (by assumption) (by rfl) (by rfl) ?_)
  refine ev_icT rfl (by exact decide_eq_true (vo_ne hm)) ?_
  repeat (first | refine ev_go rfl (by rfl) ?_ | refine ev_gf rfl (by assumption) (by rfl) (by rfl) ?_)
  refine ev_cv (as := [.int (nI i)]) rfl rfl rfl (by assumption) (by rfl) (by rfl) (kb) ?_
  repeat (first | refine ev_go rfl (by rfl) ?_ | refine ev_gf rfl (by assumption) (by rfl) (by rfl) ?_)
  exact j_ev.ret rfl
theorem x_LT_closeT (d : Nat) (hd : 6 ≤ d) {i : Nat} (h : LT mem sh lv) (hV : Vw mem P s) (hi : i < 8) (hs : s i = none) : j_ex tb (d + 2) m_LT_close [.ref 4, .int (nI i)] mem (.inr (1, mem.1)) (thr mem) := by
  have h1 : mem.2.2 4 = _ := h
  have h7 := hV.1
  have km := x_Vi_momentOf d hV hi
  rw [hs] at km
  refine ⟨e_LT_close, rfl, Nat.le_of_ble_eq_true rfl, ?_⟩
  repeat (first | refine ev_go rfl (by rfl) ?_ | refine ev_gf rfl (by assumption) (by rfl) (by rfl) ?_)
  refine ev_ifF rfl (by exact b_nlt (a := i) (b := 0) (by omega) (by omega) (by omega)) ?_
  repeat (first | refine ev_go rfl (by rfl) ?_ | refine ev_gf rfl (by assumption) (by rfl) (by rfl) ?_)
  refine ev_icT rfl (by exact b_lt (a := i) (b := 8) (by omega) (by omega) (by omega)) ?_
  repeat (first | refine ev_go rfl (by rfl) ?_ | refine ev_gf rfl (by assumption) (by rfl) (by rfl) ?_)
  refine ev_cv (as := [.int (nI i)]) rfl rfl rfl (by assumption) (by rfl) (by rfl) (km) ?_
  repeat (first | refine ev_go rfl (by rfl) ?_ | refine ev_gf rfl (by assumption) (by rfl) (by rfl) ?_)
  exact j_ev.throw rfl (by omega)
theorem x_LT_closeR (d : Nat) (hd : 6 ≤ d) {x : Int32} (hx : x < 0 ∨ nI 8 ≤ x) : j_ex tb (d + 2) m_LT_close [.ref 4, .int x] mem (.inr (0, mem.1)) (thr mem) := by
  by_cases c : x < 0
  · refine ⟨e_LT_close, rfl, Nat.le_of_ble_eq_true rfl, ?_⟩
    repeat (first | refine ev_go rfl (by rfl) ?_ | refine ev_gf rfl (by assumption) (by rfl) (by rfl) ?_)
    refine ev_ifT rfl (by exact decide_eq_true c) ?_
    exact j_ev.throw rfl (by omega)
  · have hx : nI 8 ≤ x := hx.resolve_left c
    refine ⟨e_LT_close, rfl, Nat.le_of_ble_eq_true rfl, ?_⟩
    repeat (first | refine ev_go rfl (by rfl) ?_ | refine ev_gf rfl (by assumption) (by rfl) (by rfl) ?_)
    refine ev_ifF rfl (by exact decide_eq_false c) ?_
    repeat (first | refine ev_go rfl (by rfl) ?_ | refine ev_gf rfl (by assumption) (by rfl) (by rfl) ?_)
    refine ev_icF rfl (by exact decide_eq_false (fun q => by
      rw [Int32.lt_iff_toInt_lt] at q
      rw [Int32.le_iff_toInt_le] at hx
      have e : (8 : Int32).toInt = (nI 8).toInt := rfl
      omega)) ?_
    exact j_ev.throw rfl (by omega)
end PUB
