/-! THE REFERENCE: word; the words' bytes (own text) -/
theorem spl {X Y a b : Nat} (ha : a < 2 ^ 64) (hb : b < 2 ^ 64) (h : X * 2 ^ 64 + a = Y * 2 ^ 64 + b) : X = Y ∧ a = b := by omega
theorem num_wd {f : Nat → Int64} {g : Nat → Nat} (hg : ∀ j, g j < 256) (h : v_num f = nm g 40) : ∀ w, w < 5 → uN (f w) = wd g w := by
  have a0 := nm_wd g 0
  have a1 := nm_wd g 1
  have a2 := nm_wd g 2
  have a3 := nm_wd g 3
  have a4 := nm_wd g 4
  unfold v_num at h
  rw [show nm g 40 = nm g (8 * 4 + 8) from rfl, a4] at h
  obtain ⟨h, w4⟩ := spl (uN_lt' _) (wd_lt hg 4) h
  rw [show 8 * 4 = 8 * 3 + 8 from rfl, a3] at h
  obtain ⟨h, w3⟩ := spl (uN_lt' _) (wd_lt hg 3) h
  rw [show 8 * 3 = 8 * 2 + 8 from rfl, a2] at h
  obtain ⟨h, w2⟩ := spl (uN_lt' _) (wd_lt hg 2) h
  rw [show 8 * 2 = 8 * 1 + 8 from rfl, a1] at h
  obtain ⟨h, w1⟩ := spl (uN_lt' _) (wd_lt hg 1) h
  rw [show 8 * 1 = 8 * 0 + 8 from rfl, a0] at h
  rw [show nm g (8 * 0) = 0 from rfl, Nat.zero_mul, Nat.zero_add] at h
  intro w hw
  have : w = 0 ∨ w = 1 ∨ w = 2 ∨ w = 3 ∨ w = 4 := by omega
  rcases this with rfl | rfl | rfl | rfl | rfl
  · exact h
  · exact w1
  · exact w2
  · exact w3
  · exact w4
theorem W8_at (h : Nat → Nat) (hh : ∀ j, h j < 256) (t : Nat) (ht : t < 8) : W8 h / 2 ^ (56 - 8 * t) % 256 = h t := by
  have b0 := hh 0
  have b1 := hh 1
  have b2 := hh 2
  have b3 := hh 3
  have b4 := hh 4
  have b5 := hh 5
  have b6 := hh 6
  have b7 := hh 7
  unfold W8
  have : t = 0 ∨ t = 1 ∨ t = 2 ∨ t = 3 ∨ t = 4 ∨ t = 5 ∨ t = 6 ∨ t = 7 := by omega
  rcases this with rfl | rfl | rfl | rfl | rfl | rfl | rfl | rfl
  · rw [show 2 ^ (56 - 8 * 0) = 72057594037927936 from rfl]; omega
  · rw [show 2 ^ (56 - 8 * 1) = 281474976710656 from rfl]; omega
  · rw [show 2 ^ (56 - 8 * 2) = 1099511627776 from rfl]; omega
  · rw [show 2 ^ (56 - 8 * 3) = 4294967296 from rfl]; omega
  · rw [show 2 ^ (56 - 8 * 4) = 16777216 from rfl]; omega
  · rw [show 2 ^ (56 - 8 * 5) = 65536 from rfl]; omega
  · rw [show 2 ^ (56 - 8 * 6) = 256 from rfl]; omega
  · rw [show 2 ^ (56 - 8 * 7) = 1 from rfl]; omega
theorem vb_g {f : Nat → Int64} {g : Nat → Nat} (hg : ∀ j, g j < 256) (h : v_num f = nm g 40) (h40 : ∀ j, 40 ≤ j → g j = 0) (i : Nat) : vb f i = g i := by
  unfold vb
  by_cases c : i < 40
  · rw [if_pos c, num_wd hg h (i / 8) (by omega)]
    unfold wd
    rw [W8_at _ (fun j => hg _) (i % 8) (by omega)]
    congr 1
    omega
  · rw [if_neg c, h40 i (by omega)]
section MWORD
variable {mem : j_M} {K Ln Pl Sz : Nat → Int32} {G : Nat → Nat → Int64} {P : Nat} {fa sd at' : Int32} {tp n m : Nat} {b : Nat → Int32} {s : Nat → Option Nat}
theorem m_wordN (d : Nat) {md : Nat} {x : Int32} (h : Mo mem fa tp md sd (-1)) : j_ex tb (d + 2) m_Mo_word [.ref 69, .int x] mem (.inl (some (.long 0))) (j_set mem 69 (moC 1 tp md sd (-1))) := by
  have mo1 : Mo (j_set mem 69 (moC 0 tp md sd (-1))) 0 tp md sd (-1) := rfl
  have kf := x_Mo_fail d 1 mo1
  rw [st_st] at kf
  have o1 := h
  unfold Mo moC at o1
  have o2 : (j_set mem 69 (moC 0 tp md sd (-1))).2.2 69 = some (.inr (11, [.int 0, .int (nI tp), .int (nI md), .int sd, .int (-1), .ref 70, .ref 71, .ref 72, .ref 73, .ref 74, .ref 75, .ref 76])) := rfl
  generalize hm1 : j_set mem 69 (moC 0 tp md sd (-1)) = m1 at *
  generalize hm2 : j_set mem 69 (moC 1 tp md sd (-1)) = m2 at *
  refine ⟨e_Mo_word, rfl, Nat.le_of_ble_eq_true rfl, ?_⟩
  repeat (first | refine ev_go rfl (by rfl) ?_ | refine ev_gf rfl (by assumption) (by rfl) (by rfl) ?_)
  refine ev_pf rfl (by assumption) (by rfl) (by rfl) (by rfl) ?_
  refine ev_m (mem' := m1) hm1 ?_
  repeat (first | refine ev_go rfl (by rfl) ?_ | refine ev_gf rfl (by assumption) (by rfl) (by rfl) ?_)
  refine ev_cv (as := [.int 1]) rfl rfl rfl (by assumption) (by rfl) (by rfl) (kf) ?_
  repeat (first | refine ev_go rfl (by rfl) ?_ | refine ev_gf rfl (by assumption) (by rfl) (by rfl) ?_)
  exact j_ev.ret rfl
theorem m_wordT (d : Nat) {y : Nat} {x : Int32} (hP : P ≤ 500) (h : Mo mem fa tp P sd (nI y)) (hy : y < P) (ha : Mar mem K Ln Pl Sz) (hh : Mh K Ln Pl Sz G P) (hx : x < 0 ∨ ∃ n, x = nI n ∧ n < 2 ^ 31 ∧ v_len (G (y + 1)) ≤ n) : j_ex tb (d + 2) m_Mo_word [.ref 69, .int x] mem (.inl (some (.long 0))) (j_set mem 69 (moC 2 tp P sd (nI y))) := by
  have mo1 : Mo (j_set mem 69 (moC 0 tp P sd (nI y))) 0 tp P sd (nI y) := rfl
  have kf := x_Mo_fail d 2 mo1
  rw [st_st] at kf
  have o1 := h
  unfold Mo moC at o1
  have o2 : (j_set mem 69 (moC 0 tp P sd (nI y))).2.2 69 = some (.inr (11, [.int 0, .int (nI tp), .int (nI P), .int sd, .int (nI y), .ref 70, .ref 71, .ref 72, .ref 73, .ref 74, .ref 75, .ref 76])) := rfl
  have a1 : Mar (j_set mem 69 (moC 0 tp P sd (nI y))) K Ln Pl Sz := Mar_69 ha _
  have a72 := a1.2.1
  obtain ⟨h1, h2, -⟩ := hh y hy
  generalize hm1 : j_set mem 69 (moC 0 tp P sd (nI y)) = m1 at *
  generalize hm2 : j_set mem 69 (moC 2 tp P sd (nI y)) = m2 at *
  have fin : j_ev (d + 2) (j_ex tb (d + 1)) (j_tab q_Mo_word) [] (.inl (some (.long 0))) (m2) 36 [some (.ref 69), some (.int x), none, none, none] [] m1 := by
    repeat (first | refine ev_go rfl (by rfl) ?_ | refine ev_gf rfl (by assumption) (by rfl) (by rfl) ?_)
    refine ev_cv (as := [.int 2]) rfl rfl rfl (by assumption) (by rfl) (by rfl) (kf) ?_
    repeat (first | refine ev_go rfl (by rfl) ?_ | refine ev_gf rfl (by assumption) (by rfl) (by rfl) ?_)
    exact j_ev.ret rfl
  refine ⟨e_Mo_word, rfl, Nat.le_of_ble_eq_true rfl, ?_⟩
  repeat (first | refine ev_go rfl (by rfl) ?_ | refine ev_gf rfl (by assumption) (by rfl) (by rfl) ?_)
  refine ev_pf rfl (by assumption) (by rfl) (by rfl) (by rfl) ?_
  refine ev_m (mem' := m1) hm1 ?_
  repeat (first | refine ev_go rfl (by rfl) ?_ | refine ev_gf rfl (by assumption) (by rfl) (by rfl) ?_)
  refine ev_ifT rfl (by exact b_le (a := 0) (b := y) (by omega) (by omega) (by omega)) ?_
  rcases hx with c | ⟨n, rfl, c1, c2⟩
  · repeat (first | refine ev_go rfl (by rfl) ?_ | refine ev_gf rfl (by assumption) (by rfl) (by rfl) ?_)
    refine ev_ifT rfl (decide_eq_true c) ?_
    exact fin
  · repeat (first | refine ev_go rfl (by rfl) ?_ | refine ev_gf rfl (by assumption) (by rfl) (by rfl) ?_)
    refine ev_ifF rfl (by exact b_nlt (a := n) (b := 0) (by omega) (by omega) (by omega)) ?_
    repeat (first | refine ev_go rfl (by rfl) ?_ | refine ev_gf rfl (by assumption) (by rfl) (by rfl) ?_)
    refine ev_aliN (i := y) rfl (by assumption) (by omega) (by omega) ?_
    rw [h2]
    refine ev_icF rfl (by exact b_nlt (a := n) (b := v_len (G (y + 1))) (by omega) (by omega) (by omega)) ?_
    exact fin
theorem m_word (d : Nat) {y i : Nat} (hP : P ≤ 500) (h : Mo mem fa tp P sd (nI y)) (hy : y < P) (ha : Mar mem K Ln Pl Sz) (hh : Mh K Ln Pl Sz G P) (hi : i < v_len (G (y + 1))) : j_ex tb (d + 2) m_Mo_word [.ref 69, .int (nI i)] mem (.inl (some (.long (lN (e8 (G (y + 1)) i 8))))) (j_set mem 69 (moC 0 tp P sd (nI y))) := by
  have o1 := h
  unfold Mo moC at o1
  have o2 : (j_set mem 69 (moC 0 tp P sd (nI y))).2.2 69 = some (.inr (11, [.int 0, .int (nI tp), .int (nI P), .int sd, .int (nI y), .ref 70, .ref 71, .ref 72, .ref 73, .ref 74, .ref 75, .ref 76])) := rfl
  have a1 : Mar (j_set mem 69 (moC 0 tp P sd (nI y))) K Ln Pl Sz := Mar_69 ha _
  have a72 := a1.2.1
  have a71 := a1.1
  obtain ⟨h1, h2, h3, -⟩ := hh y hy
  have hvb := vb_g (f := G (y + 1)) (tg_lt _ _) h3 (fun j hj => tg_out (by omega))
  generalize hm1 : j_set mem 69 (moC 0 tp P sd (nI y)) = m1 at *
  generalize hf : G (y + 1) = f at *
  have e8s : ∀ t, lN (e8 f i t) * 256 + lN (vb f (i + t)) = lN (e8 f i (t + 1)) := fun t => by
    show lN (e8 f i t) * lN 256 + lN (vb f (i + t)) = lN (e8 f i t * 256 + vb f (i + t))
    rw [lN_mul, lN_add]
  have loop : ∀ (g t : Nat), t + g = 8 → j_ev (d + 2) (j_ex tb (d + 1)) (j_tab q_Mo_word) [] (.inl (some (.long (lN (e8 f i 8))))) (m1) 48 [some (.ref 69), some (.int (nI i)), some (.long (lN (e8 f i t))), none, some (.int (nI (i + t)))] [] m1 := by
    intro g
    induction g with
    | zero =>
      intro t ht
      have ht : t = 8 := by omega
      subst ht
      repeat (first | refine ev_go rfl (by rfl) ?_ | refine ev_gf rfl (by assumption) (by rfl) (by rfl) ?_)
      refine ev_s (st' := [.int (nI (i + 8)), .int (nI (i + 8))]) (by rw [← nI_add i 8]; rfl) ?_
      refine ev_icT rfl (by exact b_le (a := i + 8) (b := i + 8) (by omega) (by omega) (by omega)) ?_
      repeat (first | refine ev_go rfl (by rfl) ?_ | refine ev_gf rfl (by assumption) (by rfl) (by rfl) ?_)
      exact j_ev.ret rfl
    | succ g ih =>
      intro t ht
      have zz := ih (t + 1) (by omega)
      rw [← e8s t, show i + (t + 1) = i + t + 1 by omega, ← nI_1 (i + t)] at zz
      clear ih
      by_cases c : i + t < v_len f
      · have e1 : (40 : Int32) * nI y + nI (i + t) = nI (40 * y + (i + t)) := by rw [show (40 : Int32) * nI y = nI (40 * y) from pk_mul 40 y, nI_add]
        have e2 : vb f (i + t) = byN (K (40 * y + (i + t))) := by
          rw [hvb (i + t), tg_in c]
        have hb := byN_lt (K (40 * y + (i + t)))
        rw [e2, ← nI_l (n := byN (K (40 * y + (i + t)))) (by omega), ← w_255] at zz
        repeat (first | refine ev_go rfl (by rfl) ?_ | refine ev_gf rfl (by assumption) (by rfl) (by rfl) ?_)
        refine ev_s (st' := [.int (nI (i + 8)), .int (nI (i + t))]) (by rw [← nI_add i 8]; rfl) ?_
        refine ev_icF rfl (by exact b_nle (a := i + 8) (b := i + t) (by omega) (by omega) (by omega)) ?_
        repeat (first | refine ev_go rfl (by rfl) ?_ | refine ev_gf rfl (by assumption) (by rfl) (by rfl) ?_)
        refine ev_aliN (i := y) rfl (by assumption) (by omega) (by omega) ?_
        rw [h2]
        refine ev_icF rfl (by exact b_nle (a := v_len f) (b := i + t) (by omega) (by omega) (by omega)) ?_
        repeat (first | refine ev_go rfl (by rfl) ?_ | refine ev_gf rfl (by assumption) (by rfl) (by rfl) ?_)
        refine ev_s (st' := [.int (nI (40 * y + (i + t))), .ref 71, .long (lN (e8 f i t) * 256)]) (by rw [← e1]) ?_
        refine ev_albN (i := 40 * y + (i + t)) rfl (by assumption) (by rfl) (by omega) (by omega) ?_
        repeat (first | exact zz | refine ev_go rfl (by rfl) ?_ | refine ev_gf rfl (by assumption) (by rfl) (by rfl) ?_)
      · have e2 : vb f (i + t) = 0 := by
          rw [hvb (i + t), tg_out (by omega)]
        rw [e2, ← nI_l (n := 0) (by omega)] at zz
        repeat (first | refine ev_go rfl (by rfl) ?_ | refine ev_gf rfl (by assumption) (by rfl) (by rfl) ?_)
        refine ev_s (st' := [.int (nI (i + 8)), .int (nI (i + t))]) (by rw [← nI_add i 8]; rfl) ?_
        refine ev_icF rfl (by exact b_nle (a := i + 8) (b := i + t) (by omega) (by omega) (by omega)) ?_
        repeat (first | refine ev_go rfl (by rfl) ?_ | refine ev_gf rfl (by assumption) (by rfl) (by rfl) ?_)
        refine ev_aliN (i := y) rfl (by assumption) (by omega) (by omega) ?_
        rw [h2]
        refine ev_icT rfl (by exact b_le (a := v_len f) (b := i + t) (by omega) (by omega) (by omega)) ?_
        repeat (first | exact zz | refine ev_go rfl (by rfl) ?_ | refine ev_gf rfl (by assumption) (by rfl) (by rfl) ?_)
  have k0 := loop 8 0 (by omega)
  refine ⟨e_Mo_word, rfl, Nat.le_of_ble_eq_true rfl, ?_⟩
  repeat (first | refine ev_go rfl (by rfl) ?_ | refine ev_gf rfl (by assumption) (by rfl) (by rfl) ?_)
  refine ev_pf rfl (by assumption) (by rfl) (by rfl) (by rfl) ?_
  refine ev_m (mem' := m1) hm1 ?_
  repeat (first | refine ev_go rfl (by rfl) ?_ | refine ev_gf rfl (by assumption) (by rfl) (by rfl) ?_)
  refine ev_ifT rfl (by exact b_le (a := 0) (b := y) (by omega) (by omega) (by omega)) ?_
  repeat (first | refine ev_go rfl (by rfl) ?_ | refine ev_gf rfl (by assumption) (by rfl) (by rfl) ?_)
  refine ev_ifF rfl (by exact b_nlt (a := i) (b := 0) (by omega) (by omega) (by omega)) ?_
  repeat (first | refine ev_go rfl (by rfl) ?_ | refine ev_gf rfl (by assumption) (by rfl) (by rfl) ?_)
  refine ev_aliN (i := y) rfl (by assumption) (by omega) (by omega) ?_
  rw [h2]
  refine ev_icT rfl (by exact b_lt (a := i) (b := v_len f) (by omega) (by omega) (by omega)) ?_
  repeat (first | exact k0 | refine ev_go rfl (by rfl) ?_ | refine ev_gf rfl (by assumption) (by rfl) (by rfl) ?_)
end MWORD
