/-! STEPS OF THE SMALL MACHINE, FROM THE GOAL BACK (own text) -/
section EVS
variable {d : Nat} {C : Nat → List Value → j_M → j_O → j_M → Prop} {code : Nat → j_S} {hn : List (Nat × Nat × Nat)} {o : j_O} {mo : j_M} {pc : Nat} {lc : j_L} {mem : j_M} {r : List Value}
theorem ev_gf {cs : List Nat} {k n a c : Nat} {fs : List Value} {u : Value} (hc : code pc = j_gf cs k n) (hm : mem.2.2 a = some (.inr (c, fs))) (h1 : cs.contains c = true) (hv : fs[k]? = some u) (kk : j_ev d C code hn o mo n lc (u :: r) mem) : j_ev d C code hn o mo pc lc (.ref a :: r) mem :=
  j_ev.go (by rw [hc]; simp only [j_gf, hm, h1, hv, cond_true]) kk
theorem ev_pf {cs : List Nat} {k t n a c : Nat} {fs : List Value} {u : Value} (hc : code pc = j_pf cs k t n) (hm : mem.2.2 a = some (.inr (c, fs))) (h1 : cs.contains c = true) (h2 : j_kr t u = true) (h3 : Nat.blt k fs.length = true) (kk : j_ev d C code hn o mo n lc r (j_set mem a (.inr (c, fs.set k u)))) : j_ev d C code hn o mo pc lc (u :: .ref a :: r) mem :=
  j_ev.go (by rw [hc]; simp only [j_pf, hm, h1, h2, h3, Bool.and_self, cond_true]) kk
theorem ev_ali {n b len : Nat} {a : Int32} {f : Nat → Int32} (hc : code pc = j_al 0 n) (hm : mem.2.2 b = some (.inl (0, len, .inl f))) (h1 : j_in a len = true) (kk : j_ev d C code hn o mo n lc (.int (f a.toNatClampNeg) :: r) mem) : j_ev d C code hn o mo pc lc (.int a :: .ref b :: r) mem :=
  j_ev.go (by rw [hc]; simp only [j_al, hm, h1, beq_self_eq_true, Bool.and_self, cond_true]) kk
theorem ev_alj {n b len : Nat} {a : Int32} {f : Nat → Int64} (hc : code pc = j_al 1 n) (hm : mem.2.2 b = some (.inl (1, len, .inr (.inl f)))) (h1 : j_in a len = true) (kk : j_ev d C code hn o mo n lc (.long (f a.toNatClampNeg) :: r) mem) : j_ev d C code hn o mo pc lc (.int a :: .ref b :: r) mem :=
  j_ev.go (by rw [hc]; simp only [j_al, hm, h1, beq_self_eq_true, Bool.and_self, cond_true]) kk
theorem ev_alb {n b len k : Nat} {a : Int32} {f : Nat → Int32} (hc : code pc = j_alb n) (hm : mem.2.2 b = some (.inl (k, len, .inl f))) (hk : ((k == 2) || (k == 8)) = true) (h1 : j_in a len = true) (kk : j_ev d C code hn o mo n lc (.int (f a.toNatClampNeg) :: r) mem) : j_ev d C code hn o mo pc lc (.int a :: .ref b :: r) mem :=
  j_ev.go (by rw [hc]; simp only [j_alb, hm, h1, hk, Bool.and_self, cond_true]) kk
theorem ev_alq {n b len k : Nat} {a : Int32} {f : Nat → Option Nat} (hc : code pc = j_alq n) (hm : mem.2.2 b = some (.inl (k, len, .inr (.inr (.inr (.inr f)))))) (hk : (Nat.ble 3 k && Nat.ble k 7) = true) (h1 : j_in a len = true) (kk : j_ev d C code hn o mo n lc (va_rf (f a.toNatClampNeg) :: r) mem) : j_ev d C code hn o mo pc lc (.int a :: .ref b :: r) mem :=
  j_ev.go (by rw [hc]; simp only [j_alq, hm, h1, hk, Bool.and_self, cond_true]) kk
theorem ev_an {n b len k : Nat} {z : j_Z} (hc : code pc = j_an n) (hm : mem.2.2 b = some (.inl (k, len, z))) (hk : Nat.blt k aty.length = true) (kk : j_ev d C code hn o mo n lc (.int (Int32.ofNat len) :: r) mem) : j_ev d C code hn o mo pc lc (.ref b :: r) mem :=
  j_ev.go (by rw [hc]; simp only [j_an, hm, hk, cond_true]) kk
theorem ev_ai {n b len : Nat} {a y : Int32} {f : Nat → Int32} (hc : code pc = j_ai n) (hm : mem.2.2 b = some (.inl (0, len, .inl f))) (h1 : j_in a len = true) (h4 : Nat.ble 4 b = true) (kk : j_ev d C code hn o mo n lc r (j_set mem b (.inl (0, len, .inl (upd f a.toNatClampNeg y))))) : j_ev d C code hn o mo pc lc (.int y :: .int a :: .ref b :: r) mem :=
  j_ev.go (by rw [hc]; simp only [j_ai, hm, h1, h4, beq_self_eq_true, Bool.and_self, cond_true]) kk
theorem ev_aj {n b len : Nat} {a : Int32} {y : Int64} {f : Nat → Int64} (hc : code pc = j_aj n) (hm : mem.2.2 b = some (.inl (1, len, .inr (.inl f)))) (h1 : j_in a len = true) (h4 : Nat.ble 4 b = true) (kk : j_ev d C code hn o mo n lc r (j_set mem b (.inl (1, len, .inr (.inl (vp_updL f a.toNatClampNeg y)))))) : j_ev d C code hn o mo pc lc (.long y :: .int a :: .ref b :: r) mem :=
  j_ev.go (by rw [hc]; simp only [j_aj, hm, h1, h4, beq_self_eq_true, Bool.and_self, cond_true]) kk
theorem ev_abz {n b len k : Nat} {a y : Int32} {f : Nat → Int32} (hc : code pc = j_abz n) (hm : mem.2.2 b = some (.inl (k, len, .inl f))) (hk : ((k == 2) || (k == 8)) = true) (h1 : j_in a len = true) (h4 : Nat.ble 4 b = true) (kk : j_ev d C code hn o mo n lc r (j_set mem b (.inl (k, len, .inl (upd f a.toNatClampNeg (j_nb k y)))))) : j_ev d C code hn o mo pc lc (.int y :: .int a :: .ref b :: r) mem :=
  j_ev.go (by rw [hc]; simp only [j_abz, hm, h1, h4, hk, Bool.and_self, cond_true]) kk
theorem ev_aq {n b len k v : Nat} {a : Int32} {f : Nat → Option Nat} (hc : code pc = j_aq n) (hm : mem.2.2 b = some (.inl (k, len, .inr (.inr (.inr (.inr f)))))) (hf : j_fit k (mem.2.2 v) = true) (h1 : j_in a len = true) (h4 : Nat.ble 4 b = true) (h5 : Nat.ble 4 v = true) (kk : j_ev d C code hn o mo n lc r (j_set mem b (.inl (k, len, .inr (.inr (.inr (.inr (va_up f a.toNatClampNeg (some v))))))))) : j_ev d C code hn o mo pc lc (.ref v :: .int a :: .ref b :: r) mem :=
  j_ev.go (by rw [hc]; simp only [j_aq, hm, hf, h1, h4, h5, Bool.and_self, cond_true]) kk
theorem ev_aqN {n b len : Nat} {a : Int32} {f : Nat → Option Nat} (hc : code pc = j_aq n) (hm : mem.2.2 b = some (.inl (6, len, .inr (.inr (.inr (.inr f)))))) (h1 : j_in a len = true) (h4 : Nat.ble 4 b = true) (kk : j_ev d C code hn o mo n lc r (j_set mem b (.inl (6, len, .inr (.inr (.inr (.inr (va_up f a.toNatClampNeg none)))))))) : j_ev d C code hn o mo pc lc (.null :: .int a :: .ref b :: r) mem :=
  j_ev.go (by rw [hc]; simp only [j_aq, hm, h1, h4, beq_self_eq_true, Bool.and_self, cond_true]) kk
theorem ev_na {t n : Nat} {a : Int32} (hc : code pc = j_na t n) (h1 : (!(decide (a < 0)) && Nat.ble a.toNatClampNeg 60000000) = true) (kk : j_ev d C code hn o mo n lc (.ref mem.1 :: r) (j_new mem a.toNatClampNeg (some (.inl (t, a.toNatClampNeg, j_ze t))))) : j_ev d C code hn o mo pc lc (.int a :: r) mem :=
  j_ev.go (by rw [hc]; simp only [j_na, h1, cond_true]) kk
theorem ev_cpl {n a b n0 n1 : Nat} {c dp sp : Int32} {f g : Nat → Int64} (hc : code pc = j_cpl n) (hm0 : mem.2.2 a = some (.inl (1, n0, .inr (.inl f)))) (hm1 : mem.2.2 b = some (.inl (1, n1, .inr (.inl g)))) (h1 : j_cpk sp dp c n0 n1 a b r = true) (kk : j_ev d C code hn o mo n lc r (j_set mem b (.inl (1, n1, .inr (.inl (va_cpy f g sp.toNatClampNeg dp.toNatClampNeg c.toNatClampNeg)))))) : j_ev d C code hn o mo pc lc (.int c :: .int dp :: .ref b :: .int sp :: .ref a :: r) mem :=
  j_ev.go (by rw [hc]; simp only [j_cpl, hm0, hm1, h1, beq_self_eq_true, Bool.and_self, cond_true]) kk
theorem ev_cpi {n a b n0 n1 : Nat} {c dp sp : Int32} {f g : Nat → Int32} (hc : code pc = j_cpi n) (hm0 : mem.2.2 a = some (.inl (0, n0, .inl f))) (hm1 : mem.2.2 b = some (.inl (0, n1, .inl g))) (h1 : j_cpk sp dp c n0 n1 a b r = true) (kk : j_ev d C code hn o mo n lc r (j_set mem b (.inl (0, n1, .inl (va_cpy f g sp.toNatClampNeg dp.toNatClampNeg c.toNatClampNeg))))) : j_ev d C code hn o mo pc lc (.int c :: .int dp :: .ref b :: .int sp :: .ref a :: r) mem :=
  j_ev.go (by rw [hc]; simp only [j_cpi, hm0, hm1, h1, beq_self_eq_true, Bool.and_self, cond_true]) kk
theorem ev_cpq {n a b n0 n1 : Nat} {c dp sp : Int32} {f g : Nat → Option Nat} (hc : code pc = j_cpq n) (hm0 : mem.2.2 a = some (.inl (6, n0, .inr (.inr (.inr (.inr f)))))) (hm1 : mem.2.2 b = some (.inl (6, n1, .inr (.inr (.inr (.inr g)))))) (h1 : j_cpk sp dp c n0 n1 a b r = true) (h2 : j_allq mem f sp.toNatClampNeg c.toNatClampNeg = true) (kk : j_ev d C code hn o mo n lc r (j_set mem b (.inl (6, n1, .inr (.inr (.inr (.inr (va_cpy f g sp.toNatClampNeg dp.toNatClampNeg c.toNatClampNeg)))))))) : j_ev d C code hn o mo pc lc (.int c :: .int dp :: .ref b :: .int sp :: .ref a :: r) mem :=
  j_ev.go (by rw [hc]; simp only [j_cpq, hm0, hm1, h1, h2, beq_self_eq_true, Bool.and_self, cond_true]) kk
theorem ev_cco {os ars : List Nat} {n a c : Nat} {fs : List Value} (hc : code pc = j_cc os ars n) (hm : mem.2.2 a = some (.inr (c, fs))) (h1 : os.contains c = true) (kk : j_ev d C code hn o mo n lc (.ref a :: r) mem) : j_ev d C code hn o mo pc lc (.ref a :: r) mem :=
  j_ev.go (by rw [hc]; simp only [j_cc, hm, h1, cond_true]) kk
theorem ev_cca {os ars : List Nat} {n a c : Nat} {z : vp_A} (hc : code pc = j_cc os ars n) (hm : mem.2.2 a = some (.inl (c, z))) (h1 : ars.contains c = true) (h4 : Nat.ble 4 a = true) (kk : j_ev d C code hn o mo n lc (.ref a :: r) mem) : j_ev d C code hn o mo pc lc (.ref a :: r) mem :=
  j_ev.go (by rw [hc]; simp only [j_cc, hm, h1, h4, Bool.and_self, cond_true]) kk
theorem ev_gc {n a : Nat} {z : vp_A} (hc : code pc = j_gc n) (hm : mem.2.2 a = some (.inl (6, z))) (h4 : Nat.ble 4 a = true) (h8 : Nat.ble (j_sc r) 8 = true) (kk : j_ev d C code hn o mo n lc (.ref 3 :: r) mem) : j_ev d C code hn o mo pc lc (.ref a :: r) mem :=
  j_ev.go (by rw [hc]; simp only [j_gc, hm, h4, h8, beq_self_eq_true, Bool.and_self, cond_true]) kk
/-- branches -/
theorem ev_ifT {p : Int32 → Bool} {t n : Nat} {a : Int32} (hc : code pc = j_br (f_if p) t n) (h : p a = true) (kk : j_ev d C code hn o mo t lc r mem) : j_ev d C code hn o mo pc lc (.int a :: r) mem :=
  j_ev.go (by rw [hc]; simp only [j_br, f_if, h, cond_true]) kk
theorem ev_ifF {p : Int32 → Bool} {t n : Nat} {a : Int32} (hc : code pc = j_br (f_if p) t n) (h : p a = false) (kk : j_ev d C code hn o mo n lc r mem) : j_ev d C code hn o mo pc lc (.int a :: r) mem :=
  j_ev.go (by rw [hc]; simp only [j_br, f_if, h, cond_false]) kk
theorem ev_icT {p : Int32 → Int32 → Bool} {t n : Nat} {a b : Int32} (hc : code pc = j_br (f_ic p) t n) (h : p a b = true) (kk : j_ev d C code hn o mo t lc r mem) : j_ev d C code hn o mo pc lc (.int b :: .int a :: r) mem :=
  j_ev.go (by rw [hc]; simp only [j_br, f_ic, h, cond_true]) kk
theorem ev_icF {p : Int32 → Int32 → Bool} {t n : Nat} {a b : Int32} (hc : code pc = j_br (f_ic p) t n) (h : p a b = false) (kk : j_ev d C code hn o mo n lc r mem) : j_ev d C code hn o mo pc lc (.int b :: .int a :: r) mem :=
  j_ev.go (by rw [hc]; simp only [j_br, f_ic, h, cond_false]) kk
/-- calls by the receiver's class; 'st' is the stack: arguments, receiver, rest -/
theorem ev_cv {tb0 : List (Nat × Nat)} {na b c k : Nat} {as st : List Value} {fs : List Value} {v : Option Value} {mem' : j_M} (hc : code pc = j_cv tb0 na) (hd : st.drop na = .ref b :: r) (ht : (st.take na).reverse = as) (hm : mem.2.2 b = some (.inr (c, fs))) (hl : tb0.lookup c = some k) (h8 : (Nat.ble (j_sc r) 8 && ((st.take na).length == na)) = true) (hx : C k (.ref b :: as) mem (.inl v) mem') (kk : j_ev d C code hn o mo (pc + 3) lc (v.toList ++ r) mem') : j_ev d C code hn o mo pc lc st mem :=
  j_ev.call (by rw [hc]; simp only [j_cv, hd, hm, hl, h8, cond_true, ht]) hx kk
theorem ev_cvP {tb0 : List (Nat × Nat)} {na b c k : Nat} {as st : List Value} {fs : List Value} {z : Nat × Nat} {mem' : j_M} (hc : code pc = j_cv tb0 na) (hd : st.drop na = .ref b :: r) (ht : (st.take na).reverse = as) (hm : mem.2.2 b = some (.inr (c, fs))) (hl : tb0.lookup c = some k) (h8 : (Nat.ble (j_sc r) 8 && ((st.take na).length == na)) = true) (hx : C k (.ref b :: as) mem (.inr z) mem') : j_ev d C code [] (.inr z) mem' pc lc st mem :=
  j_ev.pass (r := r) (by rw [hc]; simp only [j_cv, hd, hm, hl, h8, cond_true, ht]) hx
end EVS
/-- what lies in a cell behind a store -/
theorem st_same (mem : j_M) (a : Nat) (c : j_C) : (j_set mem a c).2.2 a = some c := va_up_self _ _ _
theorem st_ne (mem : j_M) {a b : Nat} (c : j_C) (h : b ≠ a) : (j_set mem a c).2.2 b = mem.2.2 b := va_up_ne _ _ h
