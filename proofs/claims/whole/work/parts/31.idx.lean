/-! BRANCHES AND ARRAYS BY NUMBERS (own text) -/
theorem b_le {a b : Nat} (ha : a < 2 ^ 31) (hb : b < 2 ^ 31) (h : a ≤ b) : decide (nI a ≤ nI b) = true := decide_eq_true ((nI_leI ha hb).mpr h)
theorem b_nle {a b : Nat} (ha : a < 2 ^ 31) (hb : b < 2 ^ 31) (h : b < a) : decide (nI a ≤ nI b) = false := decide_eq_false (fun q => absurd ((nI_leI ha hb).mp q) (by omega))
theorem b_lt {a b : Nat} (ha : a < 2 ^ 31) (hb : b < 2 ^ 31) (h : a < b) : decide (nI a < nI b) = true := decide_eq_true ((nI_ltI ha hb).mpr h)
theorem b_nlt {a b : Nat} (ha : a < 2 ^ 31) (hb : b < 2 ^ 31) (h : b ≤ a) : decide (nI a < nI b) = false := decide_eq_false (fun q => absurd ((nI_ltI ha hb).mp q) (by omega))
theorem b_eq {a b : Nat} (ha : a < 2 ^ 31) (hb : b < 2 ^ 31) (h : a = b) : decide (nI a = nI b) = true := decide_eq_true ((nI_eq ha hb).mpr h)
theorem b_neq {a b : Nat} (ha : a < 2 ^ 31) (hb : b < 2 ^ 31) (h : a ≠ b) : decide (nI a = nI b) = false := decide_eq_false (fun q => absurd ((nI_eq ha hb).mp q) h)
theorem b_ne {a b : Nat} (ha : a < 2 ^ 31) (hb : b < 2 ^ 31) (h : a ≠ b) : decide (¬ nI a = nI b) = true := decide_eq_true (fun q => absurd ((nI_eq ha hb).mp q) h)
theorem b_nne {a b : Nat} (ha : a < 2 ^ 31) (hb : b < 2 ^ 31) (h : a = b) : decide (¬ nI a = nI b) = false := decide_eq_false (fun q => q ((nI_eq ha hb).mpr h))
theorem i_in' {i n : Nat} (h : i < n) (hi : i < 2 ^ 31) : j_in (nI i) n = true := by
  unfold j_in
  rw [decide_eq_false (nI_pos hi), nI_clamp hi, Nat.blt_eq.mpr h]
  rfl
section EVN
variable {d : Nat} {C : Nat → List Value → j_M → j_O → j_M → Prop} {code : Nat → j_S} {hn : List (Nat × Nat × Nat)} {o : j_O} {mo : j_M} {pc : Nat} {lc : j_L} {mem : j_M} {r : List Value}
theorem ev_aliN {n b len i : Nat} {f : Nat → Int32} (hc : code pc = j_al 0 n) (hm : mem.2.2 b = some (.inl (0, len, .inl f))) (h1 : i < len) (hi : i < 2 ^ 31) (kk : j_ev d C code hn o mo n lc (.int (f i) :: r) mem) : j_ev d C code hn o mo pc lc (.int (nI i) :: .ref b :: r) mem :=
  ev_ali hc hm (i_in' h1 hi) (by rw [nI_clamp hi]; exact kk)
theorem ev_aljN {n b len i : Nat} {f : Nat → Int64} (hc : code pc = j_al 1 n) (hm : mem.2.2 b = some (.inl (1, len, .inr (.inl f)))) (h1 : i < len) (hi : i < 2 ^ 31) (kk : j_ev d C code hn o mo n lc (.long (f i) :: r) mem) : j_ev d C code hn o mo pc lc (.int (nI i) :: .ref b :: r) mem :=
  ev_alj hc hm (i_in' h1 hi) (by rw [nI_clamp hi]; exact kk)
theorem ev_albN {n b len k i : Nat} {f : Nat → Int32} (hc : code pc = j_alb n) (hm : mem.2.2 b = some (.inl (k, len, .inl f))) (hk : ((k == 2) || (k == 8)) = true) (h1 : i < len) (hi : i < 2 ^ 31) (kk : j_ev d C code hn o mo n lc (.int (f i) :: r) mem) : j_ev d C code hn o mo pc lc (.int (nI i) :: .ref b :: r) mem :=
  ev_alb hc hm hk (i_in' h1 hi) (by rw [nI_clamp hi]; exact kk)
theorem ev_alqN {n b len k i : Nat} {f : Nat → Option Nat} (hc : code pc = j_alq n) (hm : mem.2.2 b = some (.inl (k, len, .inr (.inr (.inr (.inr f)))))) (hk : (Nat.ble 3 k && Nat.ble k 7) = true) (h1 : i < len) (hi : i < 2 ^ 31) (kk : j_ev d C code hn o mo n lc (va_rf (f i) :: r) mem) : j_ev d C code hn o mo pc lc (.int (nI i) :: .ref b :: r) mem :=
  ev_alq hc hm hk (i_in' h1 hi) (by rw [nI_clamp hi]; exact kk)
theorem ev_aiN {n b len i : Nat} {y : Int32} {f : Nat → Int32} (hc : code pc = j_ai n) (hm : mem.2.2 b = some (.inl (0, len, .inl f))) (h1 : i < len) (hi : i < 2 ^ 31) (h4 : 4 ≤ b) (kk : j_ev d C code hn o mo n lc r (j_set mem b (.inl (0, len, .inl (upd f i y))))) : j_ev d C code hn o mo pc lc (.int y :: .int (nI i) :: .ref b :: r) mem :=
  ev_ai hc hm (i_in' h1 hi) (Nat.ble_eq.mpr h4) (by rw [nI_clamp hi]; exact kk)
theorem ev_ajN {n b len i : Nat} {y : Int64} {f : Nat → Int64} (hc : code pc = j_aj n) (hm : mem.2.2 b = some (.inl (1, len, .inr (.inl f)))) (h1 : i < len) (hi : i < 2 ^ 31) (h4 : 4 ≤ b) (kk : j_ev d C code hn o mo n lc r (j_set mem b (.inl (1, len, .inr (.inl (vp_updL f i y)))))) : j_ev d C code hn o mo pc lc (.long y :: .int (nI i) :: .ref b :: r) mem :=
  ev_aj hc hm (i_in' h1 hi) (Nat.ble_eq.mpr h4) (by rw [nI_clamp hi]; exact kk)
theorem ev_abN {n b len k i : Nat} {y : Int32} {f : Nat → Int32} (hc : code pc = j_abz n) (hm : mem.2.2 b = some (.inl (k, len, .inl f))) (hk : ((k == 2) || (k == 8)) = true) (h1 : i < len) (hi : i < 2 ^ 31) (h4 : 4 ≤ b) (kk : j_ev d C code hn o mo n lc r (j_set mem b (.inl (k, len, .inl (upd f i (j_nb k y)))))) : j_ev d C code hn o mo pc lc (.int y :: .int (nI i) :: .ref b :: r) mem :=
  ev_abz hc hm hk (i_in' h1 hi) (Nat.ble_eq.mpr h4) (by rw [nI_clamp hi]; exact kk)
theorem ev_aqN' {n b len k v i : Nat} {f : Nat → Option Nat} (hc : code pc = j_aq n) (hm : mem.2.2 b = some (.inl (k, len, .inr (.inr (.inr (.inr f)))))) (hf : j_fit k (mem.2.2 v) = true) (h1 : i < len) (hi : i < 2 ^ 31) (h4 : 4 ≤ b) (h5 : 4 ≤ v) (kk : j_ev d C code hn o mo n lc r (j_set mem b (.inl (k, len, .inr (.inr (.inr (.inr (va_up f i (some v))))))))) : j_ev d C code hn o mo pc lc (.ref v :: .int (nI i) :: .ref b :: r) mem :=
  ev_aq hc hm hf (i_in' h1 hi) (Nat.ble_eq.mpr h4) (Nat.ble_eq.mpr h5) (by rw [nI_clamp hi]; exact kk)
theorem ev_go {pc' : Nat} {lc' : j_L} {st st' : List Value} {mem' : j_M} (h : code pc lc st mem = some (.inl (pc', lc', st', mem'))) (_hp : Nat.beq pc' pc' = true) (k : j_ev d C code hn o mo pc' lc' st' mem') : j_ev d C code hn o mo pc lc st mem := j_ev.go h k
end EVN
/-- what is stored twice in a row -/
theorem va_up_up {α : Type} (f : Nat → α) (a : Nat) (x y : α) : va_up (va_up f a x) a y = va_up f a y := by
  funext j
  by_cases h : j = a
  · subst h; rw [va_up_self, va_up_self]
  · rw [va_up_ne _ _ h, va_up_ne _ _ h, va_up_ne _ _ h]
theorem st_st (mem : j_M) (a : Nat) (c c' : j_C) : j_set (j_set mem a c) a c' = j_set mem a c' := by
  unfold j_set
  simp only [va_up_up]
theorem va_up_id {α : Type} (f : Nat → α) (a : Nat) : va_up f a (f a) = f := by
  funext j
  by_cases h : j = a
  · subst h; rw [va_up_self]
  · rw [va_up_ne _ _ h]
theorem st_id {mem : j_M} {a : Nat} {c : j_C} (h : mem.2.2 a = some c) : j_set mem a c = mem := by
  unfold j_set
  rw [← h, va_up_id]
theorem va_up_cm {α : Type} (f : Nat → α) {a b : Nat} (h : a ≠ b) (x y : α) : va_up (va_up f a x) b y = va_up (va_up f b y) a x := by
  funext j
  by_cases h1 : j = a
  · subst h1; rw [va_up_ne _ _ h, va_up_self, va_up_self]
  · by_cases h2 : j = b
    · subst h2; rw [va_up_self, va_up_ne _ _ h1, va_up_self]
    · rw [va_up_ne _ _ h2, va_up_ne _ _ h1, va_up_ne _ _ h1, va_up_ne _ _ h2]
theorem st_cm (mem : j_M) {a b : Nat} (h : a ≠ b) (c c' : j_C) : j_set (j_set mem a c) b c' = j_set (j_set mem b c') a c := by
  unfold j_set
  simp only [va_up_cm _ h]
theorem upd_id (f : Nat → Int32) (a : Nat) : upd f a (f a) = f := by
  funext j
  by_cases h : j = a
  · subst h; rw [pk_us]
  · rw [pk_un h]
