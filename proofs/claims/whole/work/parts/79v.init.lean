/-! CONSTRUCTORS: memory as a list of cells from 4 on (own text) -/
def M_ (s : Nat) (b : Nat → Option j_C) (l : List (Option j_C)) : j_M := (4 + l.length, s, fun c => if c < 4 then b c else l.getD (c - 4) none)
theorem M_at (s : Nat) (b : Nat → Option j_C) (l : List (Option j_C)) (i : Nat) : (M_ s b l).2.2 (4 + i) = l.getD i none := by
  show (if 4 + i < 4 then b (4 + i) else l.getD (4 + i - 4) none) = _
  rw [if_neg (by omega), show 4 + i - 4 = i by omega]
theorem M_new (s : Nat) (b : Nat → Option j_C) (l : List (Option j_C)) (n : Nat) (c : Option j_C) : j_new (M_ s b l) n c = M_ (s + n) b (l ++ [c]) := by
  unfold j_new M_
  have e : (l ++ [c]).length = l.length + 1 := by simp
  rw [e]
  refine congrArg (fun f => (4 + l.length + 1, s + n, f)) ?_
  funext x
  show va_up (fun c => if c < 4 then b c else l.getD (c - 4) none) (4 + l.length) c x = if x < 4 then b x else (l ++ [c]).getD (x - 4) none
  by_cases h : x = 4 + l.length
  · subst h
    rw [va_up_self, if_neg (by omega), show 4 + l.length - 4 = l.length by omega, List.getD_eq_getElem?_getD, List.getElem?_append_right (Nat.le_refl _), Nat.sub_self]
    rfl
  · rw [va_up_ne _ _ h]
    show (if x < 4 then b x else l.getD (x - 4) none) = _
    by_cases h4 : x < 4
    · rw [if_pos h4, if_pos h4]
    · rw [if_neg h4, if_neg h4]
      rcases Nat.lt_or_ge (x - 4) l.length with g | g
      · rw [List.getD_eq_getElem?_getD, List.getD_eq_getElem?_getD, List.getElem?_append_left g]
      · rw [List.getD_eq_getElem?_getD, List.getD_eq_getElem?_getD, List.getElem?_eq_none g, List.getElem?_eq_none (by rw [List.length_append, List.length_singleton]; omega)]
theorem M_set (s : Nat) (b : Nat → Option j_C) (l : List (Option j_C)) {i : Nat} (hi : i < l.length) (x : j_C) : j_set (M_ s b l) (4 + i) x = M_ s b (l.set i (some x)) := by
  unfold j_set M_
  rw [List.length_set]
  refine congrArg (fun f => (4 + l.length, s, f)) ?_
  funext y
  show va_up (fun c => if c < 4 then b c else l.getD (c - 4) none) (4 + i) (some x) y = if y < 4 then b y else (l.set i (some x)).getD (y - 4) none
  by_cases h : y = 4 + i
  · subst h
    rw [va_up_self, if_neg (by omega), show 4 + i - 4 = i by omega, List.getD_eq_getElem?_getD, List.getElem?_set_self hi]
    rfl
  · rw [va_up_ne _ _ h]
    show (if y < 4 then b y else l.getD (y - 4) none) = _
    by_cases h4 : y < 4
    · rw [if_pos h4, if_pos h4]
    · rw [if_neg h4, if_neg h4, List.getD_eq_getElem?_getD, List.getD_eq_getElem?_getD, List.getElem?_set_ne (by omega)]
section XV
variable {d : Nat} {C : Nat → List Value → j_M → j_O → j_M → Prop} {code : Nat → j_S} {hn : List (Nat × Nat × Nat)} {o : j_O} {F : j_M → Prop} {pc : Nat} {lc : j_L} {mem : j_M} {st : List Value}
def Xv (d : Nat) (C : Nat → List Value → j_M → j_O → j_M → Prop) (code : Nat → j_S) (hn : List (Nat × Nat × Nat)) (o : j_O) (F : j_M → Prop) (pc : Nat) (lc : j_L) (st : List Value) (mem : j_M) : Prop := ∃ mo, j_ev d C code hn o mo pc lc st mem ∧ F mo
theorem xv_go {pc' : Nat} {lc' : j_L} {st' : List Value} {mem' : j_M} (h : code pc lc st mem = some (.inl (pc', lc', st', mem'))) (_hp : Nat.beq pc' pc' = true) (k : Xv d C code hn o F pc' lc' st' mem') : Xv d C code hn o F pc lc st mem := by
  obtain ⟨mo, a, b⟩ := k
  exact ⟨mo, j_ev.go h a, b⟩
theorem xv_call {k : Nat} {as r : List Value} {v : Option Value} {mem' : j_M} (h : code pc lc st mem = some (.inr (.inr (.inl (k, as, r))))) (hx : C k as mem (.inl v) mem') (kk : Xv d C code hn o F (pc + 3) lc (v.toList ++ r) mem') : Xv d C code hn o F pc lc st mem := by
  obtain ⟨mo, a, b⟩ := kk
  exact ⟨mo, j_ev.call h hx a, b⟩
theorem xv_ret {v : Option Value} (h : code pc lc st mem = some (.inr (.inl v))) (hF : F mem) : Xv d C code hn (.inl v) F pc lc st mem := ⟨mem, j_ev.ret h, hF⟩
theorem xv_s {st' : List Value} (h : st = st') (k : Xv d C code hn o F pc lc st' mem) : Xv d C code hn o F pc lc st mem := by rw [h]; exact k
theorem xv_m {mem' : j_M} (h : mem = mem') (k : Xv d C code hn o F pc lc st mem') : Xv d C code hn o F pc lc st mem := by rw [h]; exact k
/-- a new object, a new array, a store: the list of cells behind them -/
theorem xv_nw {s n c N a : Nat} {b : Nat → Option j_C} {l : List (Option j_C)} {fs : List Value} (hc : code pc = j_nw c N fs n) (ha : 4 + l.length = a) (k : Xv d C code hn o F n lc (.ref a :: st) (M_ (s + N) b (l ++ [some (.inr (c, fs))]))) : Xv d C code hn o F pc lc st (M_ s b l) := by
  subst ha
  refine xv_go (by rw [hc]; rfl) (by simp) ?_
  rw [M_new]
  exact k
theorem xv_na {s n t m a : Nat} {b : Nat → Option j_C} {l : List (Option j_C)} (hc : code pc = j_na t n) (hm : m < 60000000) (ha : 4 + l.length = a) (k : Xv d C code hn o F n lc (.ref a :: st) (M_ (s + m) b (l ++ [some (.inl (t, m, j_ze t))]))) : Xv d C code hn o F pc lc (.int (nI m) :: st) (M_ s b l) := by
  subst ha
  have e : (nI m).toNatClampNeg = m := nI_clamp (by omega)
  have h1 : (!(decide (nI m < 0)) && Nat.ble m 60000000) = true := by
    rw [decide_eq_false (nI_pos (by omega))]
    simp only [Bool.not_false, Bool.true_and]
    exact Nat.ble_eq.mpr (by omega)
  refine xv_go (mem' := j_new (M_ s b l) m (some (.inl (t, m, j_ze t)))) (st' := .ref (4 + l.length) :: st) (pc' := n) (lc' := lc) (by rw [hc]; simp only [j_na, e, h1, cond_true]; rfl) (by simp) ?_
  rw [M_new]
  exact k
theorem xv_pf {s n k t i a c : Nat} {b : Nat → Option j_C} {l l' : List (Option j_C)} {fs : List Value} {cs : List Nat} {u : Value} (hc : code pc = j_pf cs k t n) (hi : 4 + i = a) (hl : l[i]? = some (some (.inr (c, fs)))) (h1 : cs.contains c = true) (h2 : j_kr t u = true) (h3 : Nat.blt k fs.length = true) (hl' : l.set i (some (.inr (c, fs.set k u))) = l') (kk : Xv d C code hn o F n lc st (M_ s b l')) : Xv d C code hn o F pc lc (u :: .ref a :: st) (M_ s b l) := by
  subst hi
  subst hl'
  have hlt : i < l.length := (List.getElem?_eq_some_iff.mp hl).1
  have hm : (M_ s b l).2.2 (4 + i) = some (.inr (c, fs)) := by
    rw [M_at, List.getD_eq_getElem?_getD, hl]
    rfl
  refine xv_go (mem' := j_set (M_ s b l) (4 + i) (.inr (c, fs.set k u))) (st' := st) (pc' := n) (lc' := lc) (by rw [hc]; simp only [j_pf, hm, h1, h2, h3, Bool.and_self, cond_true]) (by simp) ?_
  rw [M_set _ _ _ hlt]
  exact kk
theorem xv_gf {s n k i a c : Nat} {b : Nat → Option j_C} {l : List (Option j_C)} {fs : List Value} {cs : List Nat} {u : Value} (hc : code pc = j_gf cs k n) (hi : 4 + i = a) (hl : l[i]? = some (some (.inr (c, fs)))) (h1 : cs.contains c = true) (hv : fs[k]? = some u) (kk : Xv d C code hn o F n lc (u :: st) (M_ s b l)) : Xv d C code hn o F pc lc (.ref a :: st) (M_ s b l) := by
  subst hi
  have hm : (M_ s b l).2.2 (4 + i) = some (.inr (c, fs)) := by
    rw [M_at, List.getD_eq_getElem?_getD, hl]
    rfl
  exact xv_go (by rw [hc]; simp only [j_gf, hm, h1, hv, cond_true]) (by simp) kk
theorem xv_aq {s n k len i j a v y : Nat} {b : Nat → Option j_C} {l l' : List (Option j_C)} {f : Nat → Option Nat} {w : j_C} (hc : code pc = j_aq n) (hi : 4 + i = a) (hv : 4 + j = v) (hl : l[i]? = some (some (.inl (k, len, .inr (.inr (.inr (.inr f))))))) (hw : l[j]? = some (some w)) (hf : j_fit k (some w) = true) (hy : y < len) (hy2 : y < 2 ^ 31) (hl' : l.set i (some (.inl (k, len, .inr (.inr (.inr (.inr (va_up f y (some v)))))))) = l') (kk : Xv d C code hn o F n lc st (M_ s b l')) : Xv d C code hn o F pc lc (.ref v :: .int (nI y) :: .ref a :: st) (M_ s b l) := by
  subst hi
  subst hv
  subst hl'
  have hlt : i < l.length := (List.getElem?_eq_some_iff.mp hl).1
  have hm : (M_ s b l).2.2 (4 + i) = some (.inl (k, len, .inr (.inr (.inr (.inr f))))) := by
    rw [M_at, List.getD_eq_getElem?_getD, hl]
    rfl
  have hm2 : (M_ s b l).2.2 (4 + j) = some w := by
    rw [M_at, List.getD_eq_getElem?_getD, hw]
    rfl
  have hin : j_in (nI y) len = true := i_in' hy hy2
  have hcl := nI_clamp hy2
  have q1 : Nat.ble 4 (4 + i) = true := Nat.ble_eq.mpr (by omega)
  have q2 : Nat.ble 4 (4 + j) = true := Nat.ble_eq.mpr (by omega)
  refine xv_go (mem' := j_set (M_ s b l) (4 + i) (.inl (k, len, .inr (.inr (.inr (.inr (va_up f y (some (4 + j))))))))) (st' := st) (pc' := n) (lc' := lc) (by rw [hc]; simp only [j_aq, hm, hm2, hf, hin, q1, q2, hcl, Bool.and_self, cond_true]) (by simp) ?_
  rw [M_set _ _ _ hlt]
  exact kk
end XV
section INITM
variable {s i : Nat} {b : Nat → Option j_C} {l : List (Option j_C)}
theorem M_1 (s : Nat) (b : Nat → Option j_C) (l : List (Option j_C)) : (M_ s b l).1 = 4 + l.length := rfl
theorem getE {l : List (Option j_C)} {i : Nat} {x : j_C} (h : l[i]? = some (some x)) : i < l.length ∧ ∀ s b, (M_ s b l).2.2 (4 + i) = some x := by
  refine ⟨(List.getElem?_eq_some_iff.mp h).1, fun s b => ?_⟩
  rw [M_at, List.getD_eq_getElem?_getD, h]
  rfl
theorem iM_Ve (d : Nat) {a : Nat} (ha : 4 + i = a) (h : l[i]? = some (some (.inr (8, [.null])))) {l' : List (Option j_C)} (hl' : (l ++ [some (zJ 6)]).set i (some (.inr (8, [.ref (4 + l.length)]))) = l') : j_ex tb (d + 1) m_Ve_init [.ref a] (M_ s b l) (.inl none) (M_ (s + 6) b l') := by
  subst ha
  subst hl'
  obtain ⟨h1, h2⟩ := getE h
  have k := x_Ve_init d (mem := M_ s b l) (h2 s b) (by rw [M_1]; omega)
  rw [M_new, M_1, M_set _ _ _ (by rw [List.length_append]; omega)] at k
  exact k
theorem iM_Tp (d : Nat) {a : Nat} (ha : 4 + i = a) (h : l[i]? = some (some (.inr (1, [.int 0, .null])))) {l' : List (Option j_C)} (hl' : (l ++ [some (zB 60)]).set i (some (.inr (1, [.int 0, .ref (4 + l.length)]))) = l') : j_ex tb (d + 1) m_Tp_init [.ref a] (M_ s b l) (.inl none) (M_ (s + 60) b l') := by
  subst ha
  subst hl'
  obtain ⟨h1, h2⟩ := getE h
  have k := x_Tp_init d (mem := M_ s b l) (h2 s b) (by rw [M_1]; omega)
  rw [M_new, M_1, M_set _ _ _ (by rw [List.length_append]; omega)] at k
  exact k
theorem iM_Vi (d : Nat) {a : Nat} (ha : 4 + i = a) (h : l[i]? = some (some (.inr (2, [.int 0, .null])))) {l' : List (Option j_C)} (hl' : ((l ++ [some (zI 8)]).set i (some (.inr (2, [.int 0, .ref (4 + l.length)])))).set l.length (some (.inl (0, 8, .inl (flI (fun _ => 0) 8 (-1))))) = l') : j_ex tb (d + 2) m_Vi_init [.ref a] (M_ s b l) (.inl none) (M_ (s + 8) b l') := by
  subst ha
  subst hl'
  obtain ⟨h1, h2⟩ := getE h
  have k := x_Vi_init d (mem := M_ s b l) (h2 s b) (by rw [M_1]; omega) (by rw [M_1]; omega)
  rw [M_new, M_1, M_set _ _ _ (by rw [List.length_append]; omega), M_set _ _ _ (by rw [List.length_set, List.length_append, List.length_singleton]; omega)] at k
  exact k
theorem iM_Al (d : Nat) {a : Nat} (ha : 4 + i = a) (h : l[i]? = some (some (.inr (10, [.int 0, .null, .int 0])))) {l' : List (Option j_C)} (hl' : l.set i (some (.inr (10, [.int 0, .ref 2, .int 0]))) = l') : j_ex tb (d + 3) m_AL_init [.ref a] (M_ s b l) (.inl none) (M_ s b l') := by
  subst ha
  subst hl'
  obtain ⟨h1, h2⟩ := getE h
  have k := x_AL_init d (mem := M_ s b l) (h2 s b)
  rw [M_set _ _ _ h1] at k
  exact k
end INITM
