/-! TABLE: release, usesItsBlocks; ARRAYLIST (own text) -/
def mk (f : Nat → Int32) (l : List Nat) (v : Int32) : Nat → Int32 := fun x => if x ∈ l then v else f x
theorem mk_nil (f : Nat → Int32) (v : Int32) : mk f [] v = f := by
  funext x
  exact if_neg (by simp)
theorem mk_snoc (f : Nat → Int32) (l : List Nat) (b : Nat) (v : Int32) : upd (mk f l v) b v = mk f (l ++ [b]) v := by
  funext x
  by_cases h : x = b
  · subst h
    rw [pk_us]
    exact (if_pos (by simp)).symm
  · rw [pk_un h]
    unfold mk
    by_cases h2 : x ∈ l
    · rw [if_pos h2, if_pos (by simp [h2])]
    · rw [if_neg h2, if_neg (by simp [h2, h])]
theorem take_snoc (l : List Nat) {i : Nat} (h : i < l.length) : l.take i ++ [l.getD i 0] = l.take (i + 1) := by
  rw [List.take_succ, List.getD_eq_getElem?_getD, List.getElem?_eq_getElem h]
  rfl
section TBL
variable {mem : j_M} {t q n st : Nat} {bs : List Nat} {s : Int64} {B : Nat → Option Nat} {Wn T U : Nat → Int32}
theorem x_Tb_release (d : Nat) (h : Tb mem t q bs n s st) (hC : Cp mem B Wn T U) (hq : q ≠ 12) (hl : bs.length < 2 ^ 31) (hb : ∀ b ∈ bs, b < 1000) : j_ex tb (d + 2) m_Tb_release [.ref t, .ref 9] mem (.inl none) (j_set mem 12 (.inl (0, 1000, .inl (mk T bs 0)))) := by
  have h1 := h.1
  obtain ⟨f, h2, h3⟩ := h.2
  have loop : ∀ (k i : Nat) (x : Option Value), i + k = bs.length → j_ev (d + 2) (j_ex tb (d + 1)) (j_tab q_Tb_release) [] (.inl none) (j_set mem 12 (.inl (0, 1000, .inl (mk T bs 0)))) 11 [some (.ref t), some (.ref 9), some (.ref q), some (.int (nI bs.length)), some (.int (nI i)), x] [] (j_set mem 12 (.inl (0, 1000, .inl (mk T (bs.take i) 0)))) := by
    intro k
    induction k with
    | zero =>
      intro i x hi
      have hi : i = bs.length := by omega
      subst hi
      rw [List.take_length]
      repeat (first | refine ev_go rfl (by rfl) ?_ | refine ev_gf rfl (by assumption) (by rfl) (by rfl) ?_)
      refine ev_icT rfl (by exact b_le (a := bs.length) (b := bs.length) (by omega) (by omega) (by omega)) ?_
      exact j_ev.ret rfl
    | succ k ih =>
      intro i x hi
      have k1 := ih (i + 1) (some (.int (nI (bs.getD i 0)))) (by omega)
      rw [← nI_1 i, ← take_snoc bs (by omega), ← mk_snoc] at k1
      have hC' : Cp (j_set mem 12 (.inl (0, 1000, .inl (mk T (bs.take i) 0)))) B Wn (mk T (bs.take i) 0) U := ⟨hC.1, hC.2.1, hC.2.2.1, rfl, hC.2.2.2.2⟩
      have g2 : (j_set mem 12 (.inl (0, 1000, .inl (mk T (bs.take i) 0)))).2.2 q = some (.inl (0, bs.length, .inl f)) := by rw [st_ne _ _ hq]; exact h2
      have hbi : bs.getD i 0 < 1000 := hb _ (by
        rw [List.getD_eq_getElem?_getD, List.getElem?_eq_getElem (by omega)]
        exact List.getElem_mem _)
      have kr := x_Ch_release d hC' hbi
      have g9 := hC'.1
      rw [st_st] at kr
      repeat (first | refine ev_go rfl (by rfl) ?_ | refine ev_gf rfl (by assumption) (by rfl) (by rfl) ?_)
      refine ev_icF rfl (by exact b_nle (a := bs.length) (b := i) (by omega) (by omega) (by omega)) ?_
      repeat (first | refine ev_go rfl (by rfl) ?_ | refine ev_gf rfl (by assumption) (by rfl) (by rfl) ?_)
      refine ev_aliN (i := i) rfl g2 (by omega) (by omega) ?_
      rw [h3 i (by omega)]
      repeat (first | refine ev_go rfl (by rfl) ?_ | refine ev_gf rfl (by assumption) (by rfl) (by rfl) ?_)
      refine ev_cv (as := [.int (nI (bs.getD i 0))]) rfl rfl rfl (by assumption) (by rfl) (by rfl) (kr) ?_
      repeat (first | exact k1 | refine ev_go rfl (by rfl) ?_ | refine ev_gf rfl (by assumption) (by rfl) (by rfl) ?_)
  have k0 := loop bs.length 0 none (by omega)
  rw [List.take_zero, mk_nil, st_id hC.2.2.2.1] at k0
  refine ⟨e_Tb_release, rfl, Nat.le_of_ble_eq_true rfl, ?_⟩
  repeat (first | refine ev_go rfl (by rfl) ?_ | refine ev_gf rfl (by assumption) (by rfl) (by rfl) ?_)
  refine ev_an rfl (by assumption) (by rfl) ?_
  repeat (first | exact k0 | refine ev_go rfl (by rfl) ?_ | refine ev_gf rfl (by assumption) (by rfl) (by rfl) ?_)
theorem x_Tb_uses (d : Nat) (h : Tb mem t q bs n s st) (hC : Cp mem B Wn T U) (hq : q ≠ 13) (hn : 1 ≤ n) (hn2 : n < 2 ^ 30) (hl : bs.length = (n + 7) / 8) (hb : ∀ b ∈ bs, b < 1000 ∧ T b = 1 ∧ U b = 0) (hnd : bs.Nodup) : j_ex tb (d + 2) m_Tb_usesItsBlocks [.ref t, .ref 9] mem (.inl (some (.int 1))) (j_set mem 13 (.inl (0, 1000, .inl (mk U bs 1)))) := by
  have h1 := h.1
  obtain ⟨f, h2, h3⟩ := h.2
  have loop : ∀ (k i : Nat) (x : Option Value), i + k = bs.length → j_ev (d + 2) (j_ex tb (d + 1)) (j_tab q_Tb_usesItsBlocks) [] (.inl (some (.int 1))) (j_set mem 13 (.inl (0, 1000, .inl (mk U bs 1)))) 41 [some (.ref t), some (.ref 9), some (.ref q), some (.int (nI bs.length)), some (.int (nI i)), x] [] (j_set mem 13 (.inl (0, 1000, .inl (mk U (bs.take i) 1)))) := by
    intro k
    induction k with
    | zero =>
      intro i x hi
      have hi : i = bs.length := by omega
      subst hi
      rw [List.take_length]
      repeat (first | refine ev_go rfl (by rfl) ?_ | refine ev_gf rfl (by assumption) (by rfl) (by rfl) ?_)
      refine ev_icT rfl (by exact b_le (a := bs.length) (b := bs.length) (by omega) (by omega) (by omega)) ?_
      repeat (first | refine ev_go rfl (by rfl) ?_ | refine ev_gf rfl (by assumption) (by rfl) (by rfl) ?_)
      exact j_ev.ret rfl
    | succ k ih =>
      intro i x hi
      have k1 := ih (i + 1) (some (.int (nI (bs.getD i 0)))) (by omega)
      rw [← nI_1 i, ← take_snoc bs (by omega), ← mk_snoc] at k1
      have hC' : Cp (j_set mem 13 (.inl (0, 1000, .inl (mk U (bs.take i) 1)))) B Wn T (mk U (bs.take i) 1) := ⟨hC.1, hC.2.1, hC.2.2.1, hC.2.2.2.1, rfl⟩
      have g2 : (j_set mem 13 (.inl (0, 1000, .inl (mk U (bs.take i) 1)))).2.2 q = some (.inl (0, bs.length, .inl f)) := by rw [st_ne _ _ hq]; exact h2
      have hi' : i < bs.length := by omega
      have eg : bs.getD i 0 = bs[i] := by rw [List.getD_eq_getElem?_getD, List.getElem?_eq_getElem hi']; rfl
      have hbi := hb (bs.getD i 0) (by rw [eg]; exact List.getElem_mem _)
      have hu : mk U (bs.take i) 1 (bs.getD i 0) = 0 := by
        refine (if_neg ?_).trans hbi.2.2
        intro hm
        obtain ⟨j, hj, e⟩ := List.mem_take_iff_getElem.mp hm
        exact List.pairwise_iff_getElem.mp hnd j i (by omega) hi' (by omega) (e.trans eg)
      have kr := x_Ch_use d hC' hbi.1 hbi.2.1 hu
      have g9 := hC'.1
      rw [st_st] at kr
      repeat (first | refine ev_go rfl (by rfl) ?_ | refine ev_gf rfl (by assumption) (by rfl) (by rfl) ?_)
      refine ev_icF rfl (by exact b_nle (a := bs.length) (b := i) (by omega) (by omega) (by omega)) ?_
      repeat (first | refine ev_go rfl (by rfl) ?_ | refine ev_gf rfl (by assumption) (by rfl) (by rfl) ?_)
      refine ev_aliN (i := i) rfl g2 (by omega) (by omega) ?_
      rw [h3 i (by omega)]
      repeat (first | refine ev_go rfl (by rfl) ?_ | refine ev_gf rfl (by assumption) (by rfl) (by rfl) ?_)
      refine ev_cv (as := [.int (nI (bs.getD i 0))]) rfl rfl rfl (by assumption) (by rfl) (by rfl) (kr) ?_
      repeat (first | exact k1 | refine ev_go rfl (by rfl) ?_ | refine ev_gf rfl (by assumption) (by rfl) (by rfl) ?_)
  have k0 := loop bs.length 0 none (by omega)
  rw [List.take_zero, mk_nil, st_id hC.2.2.2.2] at k0
  have e : (nI n + 8 - 1) / 8 = nI ((n + 7) / 8) := by
    rw [show nI n + 8 = nI (n + 8) from nI_add n 8, show nI (n + 8) - 1 = nI (n + 7) from nI_pred (n + 7)]
    exact pk_div (d := 8) (by omega) (by omega) (by omega)
  refine ⟨e_Tb_usesItsBlocks, rfl, Nat.le_of_ble_eq_true rfl, ?_⟩
  repeat (first | refine ev_go rfl (by rfl) ?_ | refine ev_gf rfl (by assumption) (by rfl) (by rfl) ?_)
  refine ev_icF rfl (by exact b_nlt (a := n) (b := 1) (by omega) (by omega) (by omega)) ?_
  repeat (first | refine ev_go rfl (by rfl) ?_ | refine ev_gf rfl (by assumption) (by rfl) (by rfl) ?_)
  refine ev_an rfl (by assumption) (by rfl) ?_
  repeat (first | refine ev_go rfl (by rfl) ?_ | refine ev_gf rfl (by assumption) (by rfl) (by rfl) ?_)
  refine ev_s (st' := [.int (nI ((n + 7) / 8)), .int (nI bs.length)]) (by rw [← e]; rfl) ?_
  refine ev_icT rfl (by exact b_eq (a := bs.length) (b := (n + 7) / 8) (by omega) (by omega) (by omega)) ?_
  repeat (first | refine ev_go rfl (by rfl) ?_ | refine ev_gf rfl (by assumption) (by rfl) (by rfl) ?_)
  refine ev_an rfl (by assumption) (by rfl) ?_
  repeat (first | exact k0 | refine ev_go rfl (by rfl) ?_ | refine ev_gf rfl (by assumption) (by rfl) (by rfl) ?_)
end TBL
/-- a list at l, its array at e (cap long), what it holds -/
def Al (mem : j_M) (l e cap : Nat) (xs : List Nat) : Prop := ∃ (md : Int32) (E : Nat → Option Nat), mem.2.2 l = some (.inr (10, [.int md, .ref e, .int (nI xs.length)])) ∧ mem.2.2 e = some (.inl (6, cap, .inr (.inr (.inr (.inr E))))) ∧ (∀ i, i < xs.length → E i = some (xs.getD i 0)) ∧ xs.length ≤ cap
section LIST
variable {mem : j_M} {l e cap : Nat} {xs : List Nat}
theorem x_AL_size (d : Nat) (h : Al mem l e cap xs) : j_ex tb (d + 1) m_AL_size [.ref l] mem (.inl (some (.int (nI xs.length)))) mem := by
  obtain ⟨md, E, h1, h2, h3, h4⟩ := h
  refine ⟨e_AL_size, rfl, Nat.le_of_ble_eq_true rfl, ?_⟩
  repeat (first | refine ev_go rfl (by rfl) ?_ | refine ev_gf rfl (by assumption) (by rfl) (by rfl) ?_)
  exact j_ev.ret rfl
theorem x_Pr_check (d : Nat) {i n : Nat} (hi : i < n) (hn : n < 2 ^ 31) : j_ex tb (d + 1) m_Pr_checkIndex [.int (nI i), .int (nI n), .null] mem (.inl (some (.int (nI i)))) mem := by
  refine ⟨e_Pr_checkIndex, rfl, Nat.le_of_ble_eq_true rfl, ?_⟩
  repeat (first | refine ev_go rfl (by rfl) ?_ | refine ev_gf rfl (by assumption) (by rfl) (by rfl) ?_)
  refine ev_ifF rfl (by exact b_nlt (a := i) (b := 0) (by omega) (by omega) (by omega)) ?_
  repeat (first | refine ev_go rfl (by rfl) ?_ | refine ev_gf rfl (by assumption) (by rfl) (by rfl) ?_)
  refine ev_icT rfl (by exact b_lt (a := i) (b := n) (by omega) (by omega) (by omega)) ?_
  repeat (first | refine ev_go rfl (by rfl) ?_ | refine ev_gf rfl (by assumption) (by rfl) (by rfl) ?_)
  exact j_ev.ret rfl
theorem x_Ob_check (d : Nat) {i n : Nat} (hi : i < n) (hn : n < 2 ^ 31) : j_ex tb (d + 2) m_Ob_checkIndex [.int (nI i), .int (nI n)] mem (.inl (some (.int (nI i)))) mem := by
  refine ⟨e_Ob_checkIndex, rfl, Nat.le_of_ble_eq_true rfl, ?_⟩
  repeat (first | refine ev_go rfl (by rfl) ?_ | refine ev_gf rfl (by assumption) (by rfl) (by rfl) ?_)
  refine j_ev.call rfl (x_Pr_check d hi hn) ?_
  exact j_ev.ret rfl
theorem x_AL_get (d : Nat) {i : Nat} (h : Al mem l e cap xs) (hi : i < xs.length) (hn : cap < 2 ^ 31) : j_ex tb (d + 3) m_AL_get [.ref l, .int (nI i)] mem (.inl (some (.ref (xs.getD i 0)))) mem := by
  obtain ⟨md, E, h1, h2, h3, h4⟩ := h
  have ke : j_ex tb (d + 2) m_AL_elementData [.ref l, .int (nI i)] mem (.inl (some (.ref (xs.getD i 0)))) mem := by
    refine ⟨e_AL_elementData, rfl, Nat.le_of_ble_eq_true rfl, ?_⟩
    repeat (first | refine ev_go rfl (by rfl) ?_ | refine ev_gf rfl (by assumption) (by rfl) (by rfl) ?_)
    refine ev_alqN (i := i) rfl (by assumption) (by rfl) (by omega) (by omega) ?_
    rw [h3 i hi]
    exact j_ev.ret rfl
  refine ⟨e_AL_get, rfl, Nat.le_of_ble_eq_true rfl, ?_⟩
  repeat (first | refine ev_go rfl (by rfl) ?_ | refine ev_gf rfl (by assumption) (by rfl) (by rfl) ?_)
  refine j_ev.call rfl (x_Ob_check d hi (by omega)) ?_
  repeat (first | refine ev_go rfl (by rfl) ?_ | refine ev_gf rfl (by assumption) (by rfl) (by rfl) ?_)
  refine ev_cv (as := [.int (nI i)]) rfl rfl rfl (by assumption) (by rfl) (by rfl) (ke) ?_
  exact j_ev.ret rfl
end LIST
