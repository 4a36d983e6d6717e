/-! THE REFERENCE: feed (own text) -/
/-- the byte of a call of feed, by its number -/
def fw (x1 x2 x3 x4 x5 : Int32) (k : Nat) : Int32 := if k < 4 then x1 else if k < 8 then x2 else if k < 12 then x3 else if k < 16 then x4 else x5
def fb8 (x : Int32) (k : Nat) : Int32 := (x >>> (((24 : Int32) - 8 * nI (k % 4)) &&& 31)).toInt8.toInt32
def fbs (b : Nat → Int32) (L : Nat) (x1 x2 x3 x4 x5 : Int32) : Nat → Nat → Int32
  | 0 => b
  | k + 1 => upd (fbs b L x1 x2 x3 x4 x5 k) (L + k) (fb8 (fw x1 x2 x3 x4 x5 k) k)
section MFEED
variable {mem : j_M} {fa sd at' : Int32} {tp md : Nat} {b : Nat → Int32}
theorem x_Mo_feedT (d : Nat) (x1 x2 x3 x4 x5 : Int32) (h : Mo mem fa tp md sd at') (ht : tp ≤ 60) (hL : 60 < tp + 20) : j_ex tb (d + 2) m_Mo_feed [.ref 69, .int x1, .int x2, .int x3, .int x4, .int x5] mem (.inl (some (.int 0))) (j_set mem 69 (moC 1 tp md sd at')) := by
  have h1 : mem.2.2 69 = _ := h
  unfold moC at h1
  have kf := x_Mo_fail d 1 (Mo_set (mem := mem) 0 tp md sd at')
  rw [st_st] at kf
  have g : (j_set mem 69 (moC 0 tp md sd at')).2.2 69 = some (.inr (11, [.int 0, .int (nI tp), .int (nI md), .int sd, .int at', .ref 70, .ref 71, .ref 72, .ref 73, .ref 74, .ref 75, .ref 76])) := rfl
  refine ⟨e_Mo_feed, rfl, Nat.le_of_ble_eq_true rfl, ?_⟩
  repeat (first | refine ev_go rfl (by rfl) ?_ | refine ev_gf rfl (by assumption) (by rfl) (by rfl) ?_)
  refine ev_pf rfl (by assumption) (by rfl) (by rfl) (by rfl) ?_
  refine ev_m (mem' := j_set mem 69 (moC 0 tp md sd at')) rfl ?_
  repeat (first | refine ev_go rfl (by rfl) ?_ | refine ev_gf rfl (by assumption) (by rfl) (by rfl) ?_)
  refine ev_s (st' := [.int (nI 60), .int (nI (tp + 20))]) (by rw [← nI_add tp 20]; rfl) ?_
  refine ev_icF rfl (by exact b_nle (a := tp + 20) (b := 60) (by omega) (by omega) (by omega)) ?_
  repeat (first | refine ev_go rfl (by rfl) ?_ | refine ev_gf rfl (by assumption) (by rfl) (by rfl) ?_)
  refine ev_cv (as := [.int 1]) rfl rfl rfl (by assumption) (by rfl) (by rfl) (kf) ?_
  exact j_ev.ret rfl
def mset (mem : j_M) (tp md : Nat) (sd at' : Int32) (b : Nat → Int32) : j_M := j_set (j_set mem 70 (.inl (2, 60, .inl b))) 69 (moC 0 tp md sd at')
theorem mset2 (md : Nat) (sd at' : Int32) (tp tp' : Nat) (b b' : Nat → Int32) : j_set (j_set (mset mem tp md sd at' b) 70 (.inl (2, 60, .inl b'))) 69 (moC 0 tp' md sd at') = mset mem tp' md sd at' b' := by
  unfold mset
  rw [st_cm (j_set mem 70 _) (a := 69) (b := 70) (by decide), st_st, st_st]
theorem x_Mo_feed (d : Nat) (x1 x2 x3 x4 x5 : Int32) (h : Mo mem fa tp md sd at') (h70 : mem.2.2 70 = some (.inl (2, 60, .inl b))) (hL : tp + 20 ≤ 60) : j_ex tb (d + 2) m_Mo_feed [.ref 69, .int x1, .int x2, .int x3, .int x4, .int x5] mem (.inl (some (.int (nI (tp + 20))))) (mset mem (tp + 20) md sd at' (fbs b tp x1 x2 x3 x4 x5 20)) := by
  have h1 : mem.2.2 69 = _ := h
  unfold moC at h1
  have loop : ∀ (q k : Nat) (x7 : Option Value), k + q = 20 → j_ev (d + 2) (j_ex tb (d + 1)) (j_tab q_Mo_feed) [] (.inl (some (.int (nI (tp + 20))))) (mset mem (tp + 20) md sd at' (fbs b tp x1 x2 x3 x4 x5 20)) 26 [some (.ref 69), some (.int x1), some (.int x2), some (.int x3), some (.int x4), some (.int x5), some (.int (nI k)), x7] [] (mset mem (tp + k) md sd at' (fbs b tp x1 x2 x3 x4 x5 k)) := by
    intro q
    induction q with
    | zero =>
      intro k x7 hk
      have hk : k = 20 := by omega
      subst hk
      have g69 : (mset mem (tp + 20) md sd at' (fbs b tp x1 x2 x3 x4 x5 20)).2.2 69 = some (.inr (11, [.int 0, .int (nI (tp + 20)), .int (nI md), .int sd, .int at', .ref 70, .ref 71, .ref 72, .ref 73, .ref 74, .ref 75, .ref 76])) := rfl
      generalize mset mem (tp + 20) md sd at' (fbs b tp x1 x2 x3 x4 x5 20) = m at *
      repeat (first | refine ev_go rfl (by rfl) ?_ | refine ev_gf rfl (by assumption) (by rfl) (by rfl) ?_)
      exact j_ev.ret rfl
    | succ q ih =>
      intro k x7 hk
      have k1 := ih (k + 1) (some (.int (fw x1 x2 x3 x4 x5 k))) (by omega)
      have g69 : (mset mem (tp + k) md sd at' (fbs b tp x1 x2 x3 x4 x5 k)).2.2 69 = some (.inr (11, [.int 0, .int (nI (tp + k)), .int (nI md), .int sd, .int at', .ref 70, .ref 71, .ref 72, .ref 73, .ref 74, .ref 75, .ref 76])) := rfl
      have g70 : (mset mem (tp + k) md sd at' (fbs b tp x1 x2 x3 x4 x5 k)).2.2 70 = some (.inl (2, 60, .inl (fbs b tp x1 x2 x3 x4 x5 k))) := rfl
      have hm2 := mset2 (mem := mem) md sd at' (tp + k) (tp + k + 1) (fbs b tp x1 x2 x3 x4 x5 k) (fbs b tp x1 x2 x3 x4 x5 (k + 1))
      rw [show tp + (k + 1) = tp + k + 1 by omega, ← hm2, ← nI_1 k] at k1
      unfold moC at k1
      rw [← nI_1 (tp + k)] at k1
      have e1 : nI k - nI k / 4 * 4 = nI (k % 4) := pk_rem (d := 4) (by omega) (by omega) (by omega)
      have hfb : fbs b tp x1 x2 x3 x4 x5 (k + 1) = upd (fbs b tp x1 x2 x3 x4 x5 k) (tp + k) (fb8 (fw x1 x2 x3 x4 x5 k) k) := rfl
      rw [hfb] at k1
      generalize fbs b tp x1 x2 x3 x4 x5 k = bk at *
      generalize hm : mset mem (tp + k) md sd at' bk = m at *
      have g69b : ∀ y, (j_set m 70 y).2.2 69 = some (.inr (11, [.int 0, .int (nI (tp + k)), .int (nI md), .int sd, .int at', .ref 70, .ref 71, .ref 72, .ref 73, .ref 74, .ref 75, .ref 76])) := fun y => g69
      have g69c := g69b (.inl (2, 60, .inl (upd bk (tp + k) (fb8 (fw x1 x2 x3 x4 x5 k) k))))
      generalize hmo : mset mem (tp + 20) md sd at' (fbs b tp x1 x2 x3 x4 x5 20) = mo at *
      have post : j_ev (d + 2) (j_ex tb (d + 1)) (j_tab q_Mo_feed) [] (.inl (some (.int (nI (tp + 20))))) (mo) 79 [some (.ref 69), some (.int x1), some (.int x2), some (.int x3), some (.int x4), some (.int x5), some (.int (nI k)), x7] [.int (fw x1 x2 x3 x4 x5 k)] m := by
        repeat (first | refine ev_go rfl (by rfl) ?_ | refine ev_gf rfl (by assumption) (by rfl) (by rfl) ?_)
        refine ev_s (st' := [.int (fb8 (fw x1 x2 x3 x4 x5 k) k), .int (nI (tp + k)), .ref 70]) (by unfold fb8; rw [← e1]) ?_
        refine ev_abN (i := tp + k) rfl (by assumption) (by rfl) (by omega) (by omega) (by omega) ?_
        rw [show j_nb 2 (fb8 (fw x1 x2 x3 x4 x5 k) k) = fb8 (fw x1 x2 x3 x4 x5 k) k from pk_vb _]
        repeat (first | refine ev_go rfl (by rfl) ?_ | refine ev_gf rfl (by assumption) (by rfl) (by rfl) ?_)
        refine ev_pf rfl g69c (by rfl) (by rfl) (by rfl) ?_
        repeat (first | exact k1 | refine ev_go rfl (by rfl) ?_ | refine ev_gf rfl (by assumption) (by rfl) (by rfl) ?_)
      by_cases c1 : k < 4
      · rw [show fw x1 x2 x3 x4 x5 k = x1 from if_pos c1] at post
        repeat (first | refine ev_go rfl (by rfl) ?_ | refine ev_gf rfl (by assumption) (by rfl) (by rfl) ?_)
        refine ev_icF rfl (by exact b_nle (a := 20) (b := k) (by omega) (by omega) (by omega)) ?_
        repeat (first | refine ev_go rfl (by rfl) ?_ | refine ev_gf rfl (by assumption) (by rfl) (by rfl) ?_)
        refine ev_icF rfl (by exact b_nle (a := 4) (b := k) (by omega) (by omega) (by omega)) ?_
        repeat (first | exact post | refine ev_go rfl (by rfl) ?_ | refine ev_gf rfl (by assumption) (by rfl) (by rfl) ?_)
      · by_cases c2 : k < 8
        · rw [show fw x1 x2 x3 x4 x5 k = x2 by unfold fw; rw [if_neg c1, if_pos c2]] at post
          repeat (first | refine ev_go rfl (by rfl) ?_ | refine ev_gf rfl (by assumption) (by rfl) (by rfl) ?_)
          refine ev_icF rfl (by exact b_nle (a := 20) (b := k) (by omega) (by omega) (by omega)) ?_
          repeat (first | refine ev_go rfl (by rfl) ?_ | refine ev_gf rfl (by assumption) (by rfl) (by rfl) ?_)
          refine ev_icT rfl (by exact b_le (a := 4) (b := k) (by omega) (by omega) (by omega)) ?_
          repeat (first | refine ev_go rfl (by rfl) ?_ | refine ev_gf rfl (by assumption) (by rfl) (by rfl) ?_)
          refine ev_icF rfl (by exact b_nle (a := 8) (b := k) (by omega) (by omega) (by omega)) ?_
          repeat (first | exact post | refine ev_go rfl (by rfl) ?_ | refine ev_gf rfl (by assumption) (by rfl) (by rfl) ?_)
        · by_cases c3 : k < 12
          · rw [show fw x1 x2 x3 x4 x5 k = x3 by unfold fw; rw [if_neg c1, if_neg c2, if_pos c3]] at post
            repeat (first | refine ev_go rfl (by rfl) ?_ | refine ev_gf rfl (by assumption) (by rfl) (by rfl) ?_)
            refine ev_icF rfl (by exact b_nle (a := 20) (b := k) (by omega) (by omega) (by omega)) ?_
            repeat (first | refine ev_go rfl (by rfl) ?_ | refine ev_gf rfl (by assumption) (by rfl) (by rfl) ?_)
            refine ev_icT rfl (by exact b_le (a := 4) (b := k) (by omega) (by omega) (by omega)) ?_
            repeat (first | refine ev_go rfl (by rfl) ?_ | refine ev_gf rfl (by assumption) (by rfl) (by rfl) ?_)
            refine ev_icT rfl (by exact b_le (a := 8) (b := k) (by omega) (by omega) (by omega)) ?_
            repeat (first | refine ev_go rfl (by rfl) ?_ | refine ev_gf rfl (by assumption) (by rfl) (by rfl) ?_)
            refine ev_icF rfl (by exact b_nle (a := 12) (b := k) (by omega) (by omega) (by omega)) ?_
            repeat (first | exact post | refine ev_go rfl (by rfl) ?_ | refine ev_gf rfl (by assumption) (by rfl) (by rfl) ?_)
          · by_cases c4 : k < 16
            · rw [show fw x1 x2 x3 x4 x5 k = x4 by unfold fw; rw [if_neg c1, if_neg c2, if_neg c3, if_pos c4]] at post
              repeat (first | refine ev_go rfl (by rfl) ?_ | refine ev_gf rfl (by assumption) (by rfl) (by rfl) ?_)
              refine ev_icF rfl (by exact b_nle (a := 20) (b := k) (by omega) (by omega) (by omega)) ?_
              repeat (first | refine ev_go rfl (by rfl) ?_ | refine ev_gf rfl (by assumption) (by rfl) (by rfl) ?_)
              refine ev_icT rfl (by exact b_le (a := 4) (b := k) (by omega) (by omega) (by omega)) ?_
              repeat (first | refine ev_go rfl (by rfl) ?_ | refine ev_gf rfl (by assumption) (by rfl) (by rfl) ?_)
              refine ev_icT rfl (by exact b_le (a := 8) (b := k) (by omega) (by omega) (by omega)) ?_
              repeat (first | refine ev_go rfl (by rfl) ?_ | refine ev_gf rfl (by assumption) (by rfl) (by rfl) ?_)
              refine ev_icT rfl (by exact b_le (a := 12) (b := k) (by omega) (by omega) (by omega)) ?_
              repeat (first | refine ev_go rfl (by rfl) ?_ | refine ev_gf rfl (by assumption) (by rfl) (by rfl) ?_)
              refine ev_icF rfl (by exact b_nle (a := 16) (b := k) (by omega) (by omega) (by omega)) ?_
              repeat (first | exact post | refine ev_go rfl (by rfl) ?_ | refine ev_gf rfl (by assumption) (by rfl) (by rfl) ?_)
            · rw [show fw x1 x2 x3 x4 x5 k = x5 by unfold fw; rw [if_neg c1, if_neg c2, if_neg c3, if_neg c4]] at post
              repeat (first | refine ev_go rfl (by rfl) ?_ | refine ev_gf rfl (by assumption) (by rfl) (by rfl) ?_)
              refine ev_icF rfl (by exact b_nle (a := 20) (b := k) (by omega) (by omega) (by omega)) ?_
              repeat (first | refine ev_go rfl (by rfl) ?_ | refine ev_gf rfl (by assumption) (by rfl) (by rfl) ?_)
              refine ev_icT rfl (by exact b_le (a := 4) (b := k) (by omega) (by omega) (by omega)) ?_
              repeat (first | refine ev_go rfl (by rfl) ?_ | refine ev_gf rfl (by assumption) (by rfl) (by rfl) ?_)
              refine ev_icT rfl (by exact b_le (a := 8) (b := k) (by omega) (by omega) (by omega)) ?_
              repeat (first | refine ev_go rfl (by rfl) ?_ | refine ev_gf rfl (by assumption) (by rfl) (by rfl) ?_)
              refine ev_icT rfl (by exact b_le (a := 12) (b := k) (by omega) (by omega) (by omega)) ?_
              repeat (first | refine ev_go rfl (by rfl) ?_ | refine ev_gf rfl (by assumption) (by rfl) (by rfl) ?_)
              refine ev_icT rfl (by exact b_le (a := 16) (b := k) (by omega) (by omega) (by omega)) ?_
              repeat (first | exact post | refine ev_go rfl (by rfl) ?_ | refine ev_gf rfl (by assumption) (by rfl) (by rfl) ?_)
  have k0 := loop 20 0 none (by omega)
  have e0 : mset mem (tp + 0) md sd at' (fbs b tp x1 x2 x3 x4 x5 0) = j_set mem 69 (moC 0 tp md sd at') := by
    show j_set (j_set mem 70 (.inl (2, 60, .inl b))) 69 _ = _
    rw [st_id h70]
    rfl
  rw [e0] at k0
  generalize mset mem (tp + 20) md sd at' (fbs b tp x1 x2 x3 x4 x5 20) = mo at *
  refine ⟨e_Mo_feed, rfl, Nat.le_of_ble_eq_true rfl, ?_⟩
  repeat (first | refine ev_go rfl (by rfl) ?_ | refine ev_gf rfl (by assumption) (by rfl) (by rfl) ?_)
  refine ev_pf rfl (by assumption) (by rfl) (by rfl) (by rfl) ?_
  refine ev_m (mem' := j_set mem 69 (moC 0 tp md sd at')) rfl ?_
  repeat (first | refine ev_go rfl (by rfl) ?_ | refine ev_gf rfl (by assumption) (by rfl) (by rfl) ?_)
  refine ev_s (st' := [.int (nI 60), .int (nI (tp + 20))]) (by rw [← nI_add tp 20]; rfl) ?_
  refine ev_icT rfl (by exact b_le (a := tp + 20) (b := 60) (by omega) (by omega) (by omega)) ?_
  repeat (first | exact k0 | refine ev_go rfl (by rfl) ?_ | refine ev_gf rfl (by assumption) (by rfl) (by rfl) ?_)
end MFEED
