/-! CHIP (own text) -/
/-- arrays in memory -/
def aI (n : Nat) (f : Nat → Int32) : j_C := .inl (0, n, .inl f)
def aJ (n : Nat) (f : Nat → Int64) : j_C := .inl (1, n, .inr (.inl f))
def aQ (k n : Nat) (f : Nat → Option Nat) : j_C := .inl (k, n, .inr (.inr (.inr (.inr f))))
/-- the chip: rows' addresses, how far each block is written, which are taken, uses -/
def Cp (mem : j_M) (B : Nat → Option Nat) (Wn T U : Nat → Int32) : Prop :=
  mem.2.2 9 = some (.inr (3, [.int 0, .ref 10, .ref 11, .ref 12, .ref 13])) ∧ mem.2.2 10 = some (.inl (7, 1000, .inr (.inr (.inr (.inr B))))) ∧ mem.2.2 11 = some (.inl (0, 1000, .inl Wn)) ∧ mem.2.2 12 = some (.inl (0, 1000, .inl T)) ∧ mem.2.2 13 = some (.inl (0, 1000, .inl U))
/-- the rows themselves -/
def Rw (mem : j_M) (B : Nat → Option Nat) (D : Nat → Nat → Int64) : Prop :=
  (∀ b a, B b = some a → 78 ≤ a ∧ a < mem.1 ∧ mem.2.2 a = some (.inl (1, 48, .inr (.inl (D b))))) ∧ ∀ b b' a, B b = some a → B b' = some a → b = b'
section CHIP
variable {mem : j_M} {B : Nat → Option Nat} {Wn T U : Nat → Int32} {D : Nat → Nat → Int64} {b : Nat}
theorem x_Ch_isMisused (d : Nat) (h : Cp mem B Wn T U) : j_ex tb (d + 1) m_Ch_isMisused [.ref 9] mem (.inl (some (.int 0))) mem := by
  have h1 := h.1
  refine ⟨e_Ch_isMisused, rfl, Nat.le_of_ble_eq_true rfl, ?_⟩
  repeat (first | refine ev_go rfl (by rfl) ?_ | refine ev_gf rfl (by assumption) (by rfl) (by rfl) ?_)
  exact j_ev.ret rfl
theorem x_Ch_forgetUses (d : Nat) (h : Cp mem B Wn T U) : j_ex tb (d + 2) m_Ch_forgetUses [.ref 9] mem (.inl none) (j_set mem 13 (.inl (0, 1000, .inl (flI U 1000 0)))) := by
  have h1 := h.1
  refine ⟨e_Ch_forgetUses, rfl, Nat.le_of_ble_eq_true rfl, ?_⟩
  repeat (first | refine ev_go rfl (by rfl) ?_ | refine ev_gf rfl (by assumption) (by rfl) (by rfl) ?_)
  refine j_ev.call rfl (x_Ar_fillI d h.2.2.2.2 (by omega) (by omega) 0) ?_
  exact j_ev.ret rfl
theorem x_Ch_release (d : Nat) (h : Cp mem B Wn T U) (hb : b < 1000) : j_ex tb (d + 1) m_Ch_release [.ref 9, .int (nI b)] mem (.inl none) (j_set mem 12 (.inl (0, 1000, .inl (upd T b 0)))) := by
  have h1 := h.1
  have h4 := h.2.2.2.1
  refine ⟨e_Ch_release, rfl, Nat.le_of_ble_eq_true rfl, ?_⟩
  repeat (first | refine ev_go rfl (by rfl) ?_ | refine ev_gf rfl (by assumption) (by rfl) (by rfl) ?_)
  refine ev_ifF rfl (by exact b_nlt (a := b) (b := 0) (by omega) (by omega) (by omega)) ?_
  repeat (first | refine ev_go rfl (by rfl) ?_ | refine ev_gf rfl (by assumption) (by rfl) (by rfl) ?_)
  refine ev_icF rfl (by exact b_nle (a := 1000) (b := b) (by omega) (by omega) (by omega)) ?_
  repeat (first | refine ev_go rfl (by rfl) ?_ | refine ev_gf rfl (by assumption) (by rfl) (by rfl) ?_)
  refine ev_aiN (i := b) rfl (by assumption) (by omega) (by omega) (by omega) ?_
  exact j_ev.ret rfl
theorem x_Ch_use (d : Nat) (h : Cp mem B Wn T U) (hb : b < 1000) (hT : T b = 1) (hU : U b = 0) : j_ex tb (d + 1) m_Ch_use [.ref 9, .int (nI b)] mem (.inl (some (.int 1))) (j_set mem 13 (.inl (0, 1000, .inl (upd U b 1)))) := by
  have h1 := h.1
  have h4 := h.2.2.2.1
  have h5 := h.2.2.2.2
  have g1 : (j_set mem 13 (.inl (0, 1000, .inl (upd U b 1)))).2.2 9 = some (.inr (3, [.int 0, .ref 10, .ref 11, .ref 12, .ref 13])) := h1
  have g2 : (j_set mem 13 (.inl (0, 1000, .inl (upd U b 1)))).2.2 13 = some (.inl (0, 1000, .inl (upd U b 1))) := rfl
  refine ⟨e_Ch_use, rfl, Nat.le_of_ble_eq_true rfl, ?_⟩
  repeat (first | refine ev_go rfl (by rfl) ?_ | refine ev_gf rfl (by assumption) (by rfl) (by rfl) ?_)
  refine ev_ifF rfl (by exact b_nlt (a := b) (b := 0) (by omega) (by omega) (by omega)) ?_
  repeat (first | refine ev_go rfl (by rfl) ?_ | refine ev_gf rfl (by assumption) (by rfl) (by rfl) ?_)
  refine ev_icF rfl (by exact b_nle (a := 1000) (b := b) (by omega) (by omega) (by omega)) ?_
  repeat (first | refine ev_go rfl (by rfl) ?_ | refine ev_gf rfl (by assumption) (by rfl) (by rfl) ?_)
  refine ev_aliN (i := b) rfl (by assumption) (by omega) (by omega) ?_
  rw [hT]
  repeat (first | refine ev_go rfl (by rfl) ?_ | refine ev_gf rfl (by assumption) (by rfl) (by rfl) ?_)
  refine ev_aliN (i := b) rfl (by assumption) (by omega) (by omega) ?_
  rw [hU]
  repeat (first | refine ev_go rfl (by rfl) ?_ | refine ev_gf rfl (by assumption) (by rfl) (by rfl) ?_)
  refine ev_aiN (i := b) (y := 1) rfl h5 (by omega) (by omega) (by omega) ?_
  repeat (first | refine ev_go rfl (by rfl) ?_ | refine ev_gf rfl (by assumption) (by rfl) (by rfl) ?_)
  refine ev_aliN (i := b) rfl (by assumption) (by omega) (by omega) ?_
  rw [pk_us]
  repeat (first | refine ev_go rfl (by rfl) ?_ | refine ev_gf rfl (by assumption) (by rfl) (by rfl) ?_)
  exact j_ev.ret rfl
theorem x_Ch_hasRow (d : Nat) {a p : Nat} (h : Cp mem B Wn T U) (hR : Rw mem B D) (hb : b < 1000) (hB : B b = some a) (hp : p + 6 ≤ 48) : j_ex tb (d + 1) m_Ch_hasRow [.ref 9, .int (nI b), .int (nI p)] mem (.inl (some (.int 1))) mem := by
  have h1 := h.1
  have h2 := h.2.1
  have h3 := (hR.1 b a hB).2.2
  refine ⟨e_Ch_hasRow, rfl, Nat.le_of_ble_eq_true rfl, ?_⟩
  repeat (first | refine ev_go rfl (by rfl) ?_ | refine ev_gf rfl (by assumption) (by rfl) (by rfl) ?_)
  refine ev_ifF rfl (by exact b_nlt (a := b) (b := 0) (by omega) (by omega) (by omega)) ?_
  repeat (first | refine ev_go rfl (by rfl) ?_ | refine ev_gf rfl (by assumption) (by rfl) (by rfl) ?_)
  refine ev_icF rfl (by exact b_nle (a := 1000) (b := b) (by omega) (by omega) (by omega)) ?_
  repeat (first | refine ev_go rfl (by rfl) ?_ | refine ev_gf rfl (by assumption) (by rfl) (by rfl) ?_)
  refine ev_alqN (i := b) rfl (by assumption) (by rfl) (by omega) (by omega) ?_
  rw [hB]
  repeat (first | refine ev_go rfl (by rfl) ?_ | refine ev_gf rfl (by assumption) (by rfl) (by rfl) ?_)
  refine ev_ifF rfl (by exact b_nlt (a := p) (b := 0) (by omega) (by omega) (by omega)) ?_
  repeat (first | refine ev_go rfl (by rfl) ?_ | refine ev_gf rfl (by assumption) (by rfl) (by rfl) ?_)
  refine ev_alqN (i := b) rfl (by assumption) (by rfl) (by omega) (by omega) ?_
  rw [hB]
  refine ev_an rfl h3 (by rfl) ?_
  refine ev_s (st' := [.int (nI 48), .int (nI (p + 6))]) (by rw [← nI_add p 6]; rfl) ?_
  refine ev_icF rfl (by exact b_nlt (a := 48) (b := p + 6) (by omega) (by omega) (by omega)) ?_
  repeat (first | refine ev_go rfl (by rfl) ?_ | refine ev_gf rfl (by assumption) (by rfl) (by rfl) ?_)
  exact j_ev.ret rfl
theorem x_Ch_read (d : Nat) {a p v w : Nat} {f : Nat → Int64} (h : Cp mem B Wn T U) (hR : Rw mem B D) (hb : b < 1000) (hB : B b = some a) (hp : p + 6 ≤ 48) (hv : Ve mem v w f) (hw : 4 ≤ w) :
    ∃ f', sw f' (fun j => D b (p + j)) ∧ j_ex tb (d + 2) m_Ch_read [.ref 9, .int (nI b), .int (nI p), .ref v] mem (.inl none) (j_set mem w (vW f')) := by
  refine ⟨va_cpy (D b) f p 0 6, fun j hj => by rw [pk_cpy_in (by omega) (by omega)]; rfl, ?_⟩
  have h1 := h.1
  have h2 := h.2.1
  have h3 := (hR.1 b a hB).2.2
  have h78 := (hR.1 b a hB).1
  have v1 := hv.1
  refine ⟨e_Ch_read, rfl, Nat.le_of_ble_eq_true rfl, ?_⟩
  repeat (first | refine ev_go rfl (by rfl) ?_ | refine ev_gf rfl (by assumption) (by rfl) (by rfl) ?_)
  refine ev_cv (as := [.int (nI b), .int (nI p)]) rfl rfl rfl (by assumption) (by rfl) (by rfl) (x_Ch_hasRow d h hR hb hB hp) ?_
  repeat (first | refine ev_go rfl (by rfl) ?_ | refine ev_gf rfl (by assumption) (by rfl) (by rfl) ?_)
  refine ev_alqN (i := b) rfl (by assumption) (by rfl) (by omega) (by omega) ?_
  rw [hB]
  repeat (first | refine ev_go rfl (by rfl) ?_ | refine ev_gf rfl (by assumption) (by rfl) (by rfl) ?_)
  refine ev_cv (as := []) rfl rfl rfl (by assumption) (by rfl) (by rfl) (x_Ve_words d hv) ?_
  repeat (first | refine ev_go rfl (by rfl) ?_ | refine ev_gf rfl (by assumption) (by rfl) (by rfl) ?_)
  refine ev_cplN (sp := p) (dp := 0) (c := 6) rfl h3 hv.2 (by omega) (by omega) (by omega) (by omega) (by omega) (by omega) hw (by decide) ?_
  exact j_ev.ret rfl
theorem x_Ch_write (d : Nat) {a p q v w : Nat} {g : Nat → Int64} (h : Cp mem B Wn T U) (hR : Rw mem B D) (hb : b < 1000) (hB : B b = some a) (hp : p + 6 ≤ 48) (hW : Wn b = nI q) (hq : q ≤ p) (hv : Ve mem v w g) (hw : 4 ≤ w) :
    j_ex tb (d + 2) m_Ch_write [.ref 9, .int (nI b), .int (nI p), .ref v] mem (.inl none) (j_set (j_set mem a (.inl (1, 48, .inr (.inl (va_cpy g (D b) 0 p 6))))) 11 (.inl (0, 1000, .inl (upd Wn b (nI (p + 6)))))) := by
  have h1 := h.1
  have h2 := h.2.1
  have h3 := (hR.1 b a hB).2.2
  have h11 := h.2.2.1
  have h78 := (hR.1 b a hB).1
  have v1 := hv.1
  have g1 : ∀ x, (j_set mem a x).2.2 9 = some (.inr (3, [.int 0, .ref 10, .ref 11, .ref 12, .ref 13])) := fun x => by rw [st_ne _ _ (by omega)]; exact h1
  have g2 : ∀ x, (j_set mem a x).2.2 11 = some (.inl (0, 1000, .inl Wn)) := fun x => by rw [st_ne _ _ (by omega)]; exact h11
  refine ⟨e_Ch_write, rfl, Nat.le_of_ble_eq_true rfl, ?_⟩
  repeat (first | refine ev_go rfl (by rfl) ?_ | refine ev_gf rfl (by assumption) (by rfl) (by rfl) ?_)
  refine ev_cv (as := [.int (nI b), .int (nI p)]) rfl rfl rfl (by assumption) (by rfl) (by rfl) (x_Ch_hasRow d h hR hb hB hp) ?_
  repeat (first | refine ev_go rfl (by rfl) ?_ | refine ev_gf rfl (by assumption) (by rfl) (by rfl) ?_)
  refine ev_aliN (i := b) rfl (by assumption) (by omega) (by omega) ?_
  rw [hW]
  refine ev_icF rfl (by exact b_nlt (a := p) (b := q) (by omega) (by omega) (by omega)) ?_
  repeat (first | refine ev_go rfl (by rfl) ?_ | refine ev_gf rfl (by assumption) (by rfl) (by rfl) ?_)
  refine ev_cv (as := []) rfl rfl rfl (by assumption) (by rfl) (by rfl) (x_Ve_words d hv) ?_
  repeat (first | refine ev_go rfl (by rfl) ?_ | refine ev_gf rfl (by assumption) (by rfl) (by rfl) ?_)
  refine ev_alqN (i := b) rfl (by assumption) (by rfl) (by omega) (by omega) ?_
  rw [hB]
  repeat (first | refine ev_go rfl (by rfl) ?_ | refine ev_gf rfl (by assumption) (by rfl) (by rfl) ?_)
  refine ev_cplN (sp := 0) (dp := p) (c := 6) rfl hv.2 h3 (by omega) (by omega) (by omega) (by omega) (by omega) hw (by omega) (by decide) ?_
  have g3 := g1 (.inl (1, 48, .inr (.inl (va_cpy g (D b) 0 p 6))))
  have g4 := g2 (.inl (1, 48, .inr (.inl (va_cpy g (D b) 0 p 6))))
  rw [← nI_add p 6]
  repeat (first | refine ev_go rfl (by rfl) ?_ | refine ev_gf rfl (by assumption) (by rfl) (by rfl) ?_)
  refine ev_aiN (i := b) rfl (by assumption) (by omega) (by omega) (by omega) ?_
  repeat (first | refine ev_go rfl (by rfl) ?_ | refine ev_gf rfl (by assumption) (by rfl) (by rfl) ?_)
  exact j_ev.ret rfl
theorem x_Ch_eraseO (d : Nat) {a : Nat} (h : Cp mem B Wn T U) (hR : Rw mem B D) (hb : b < 1000) (hB : B b = some a) :
    j_ex tb (d + 2) m_Ch_erase [.ref 9, .int (nI b)] mem (.inl none) (j_set (j_set mem a (.inl (1, 48, .inr (.inl (flJ (D b) 48 (-1)))))) 11 (.inl (0, 1000, .inl (upd Wn b 0)))) := by
  have h1 := h.1
  have h2 := h.2.1
  have h3 := (hR.1 b a hB).2.2
  have h11 := h.2.2.1
  have h78 := (hR.1 b a hB).1
  have g1 : (j_set mem a (.inl (1, 48, .inr (.inl (flJ (D b) 48 (-1)))))).2.2 9 = some (.inr (3, [.int 0, .ref 10, .ref 11, .ref 12, .ref 13])) := by rw [st_ne _ _ (by omega)]; exact h1
  have g2 : (j_set mem a (.inl (1, 48, .inr (.inl (flJ (D b) 48 (-1)))))).2.2 11 = some (.inl (0, 1000, .inl Wn)) := by rw [st_ne _ _ (by omega)]; exact h11
  refine ⟨e_Ch_erase, rfl, Nat.le_of_ble_eq_true rfl, ?_⟩
  repeat (first | refine ev_go rfl (by rfl) ?_ | refine ev_gf rfl (by assumption) (by rfl) (by rfl) ?_)
  refine ev_alqN (i := b) rfl (by assumption) (by rfl) (by omega) (by omega) ?_
  rw [hB]
  repeat (first | refine ev_go rfl (by rfl) ?_ | refine ev_gf rfl (by assumption) (by rfl) (by rfl) ?_)
  refine ev_alqN (i := b) rfl (by assumption) (by rfl) (by omega) (by omega) ?_
  rw [hB]
  repeat (first | refine ev_go rfl (by rfl) ?_ | refine ev_gf rfl (by assumption) (by rfl) (by rfl) ?_)
  refine j_ev.call rfl (x_Ar_fillJ d h3 (by omega) (by omega) (-1)) ?_
  repeat (first | refine ev_go rfl (by rfl) ?_ | refine ev_gf rfl (by assumption) (by rfl) (by rfl) ?_)
  refine ev_aiN (i := b) rfl (by assumption) (by omega) (by omega) (by omega) ?_
  exact j_ev.ret rfl
/-- memory behind a new cell -/
theorem nw_same (mem : j_M) (n : Nat) (c : Option j_C) : (j_new mem n c).2.2 mem.1 = c := va_up_self _ _ _
theorem nw_ne (mem : j_M) (n : Nat) (c : Option j_C) {x : Nat} (h : x ≠ mem.1) : (j_new mem n c).2.2 x = mem.2.2 x := va_up_ne _ _ h
theorem x_Ch_eraseN (d : Nat) (h : Cp mem B Wn T U) (hb : b < 1000) (hB : B b = none) (h78 : 78 ≤ mem.1) :
    j_ex tb (d + 2) m_Ch_erase [.ref 9, .int (nI b)] mem (.inl none) (j_set (j_set (j_set (j_new mem 48 (some (.inl (1, 48, .inr (.inl (fun _ => 0)))))) 10 (.inl (7, 1000, .inr (.inr (.inr (.inr (va_up B b (some mem.1)))))))) mem.1 (.inl (1, 48, .inr (.inl (flJ (fun _ => 0) 48 (-1)))))) 11 (.inl (0, 1000, .inl (upd Wn b 0)))) := by
  have h1 := h.1
  have h2 := h.2.1
  have h11 := h.2.2.1
  have n1 : ∀ n c x, x < 78 → (j_new mem n c).2.2 x = mem.2.2 x := fun n c x hx => nw_ne _ _ _ (by omega)
  have g1 : (j_new mem 48 (some (.inl (1, 48, .inr (.inl (fun _ => 0)))))).2.2 9 = some (.inr (3, [.int 0, .ref 10, .ref 11, .ref 12, .ref 13])) := by rw [n1 _ _ _ (by omega)]; exact h1
  have g2 : (j_new mem 48 (some (.inl (1, 48, .inr (.inl (fun _ => 0)))))).2.2 10 = some (.inl (7, 1000, .inr (.inr (.inr (.inr B))))) := by rw [n1 _ _ _ (by omega)]; exact h2
  have g0 : (j_new mem 48 (some (.inl (1, 48, .inr (.inl (fun _ => 0)))))).2.2 mem.1 = some (.inl (1, 48, .inr (.inl (fun _ => 0)))) := nw_same _ _ _
  have g11 : (j_new mem 48 (some (.inl (1, 48, .inr (.inl (fun _ => 0)))))).2.2 11 = some (.inl (0, 1000, .inl Wn)) := by rw [n1 _ _ _ (by omega)]; exact h11
  generalize hm : j_new mem 48 (some (.inl (1, 48, .inr (.inl (fun _ => 0))))) = m1 at g0 g1 g2 g11 ⊢
  have i1 : ∀ x, (j_set m1 10 x).2.2 9 = some (.inr (3, [.int 0, .ref 10, .ref 11, .ref 12, .ref 13])) := fun x => g1
  have i2 : (j_set m1 10 (.inl (7, 1000, .inr (.inr (.inr (.inr (va_up B b (some mem.1)))))))).2.2 10 = some (.inl (7, 1000, .inr (.inr (.inr (.inr (va_up B b (some mem.1))))))) := rfl
  have i3 := i1 (.inl (7, 1000, .inr (.inr (.inr (.inr (va_up B b (some mem.1)))))))
  have i4 : (j_set m1 10 (.inl (7, 1000, .inr (.inr (.inr (.inr (va_up B b (some mem.1)))))))).2.2 mem.1 = some (.inl (1, 48, .inr (.inl (fun _ => 0)))) := by rw [st_ne _ _ (by omega)]; exact g0
  have e1 : ∀ x y, (j_set (j_set m1 10 x) mem.1 y).2.2 9 = some (.inr (3, [.int 0, .ref 10, .ref 11, .ref 12, .ref 13])) := fun x y => by rw [st_ne _ _ (by omega)]; exact g1
  have e2 : ∀ x y, (j_set (j_set m1 10 x) mem.1 y).2.2 11 = some (.inl (0, 1000, .inl Wn)) := fun x y => by rw [st_ne _ _ (by omega)]; exact g11
  refine ⟨e_Ch_erase, rfl, Nat.le_of_ble_eq_true rfl, ?_⟩
  repeat (first | refine ev_go rfl (by rfl) ?_ | refine ev_gf rfl (by assumption) (by rfl) (by rfl) ?_)
  refine ev_alqN (i := b) rfl (by assumption) (by rfl) (by omega) (by omega) ?_
  rw [hB]
  repeat (first | refine ev_go rfl (by rfl) ?_ | refine ev_gf rfl (by assumption) (by rfl) (by rfl) ?_)
  refine ev_m hm ?_
  refine ev_aqN' (i := b) rfl g2 (by rw [g0]; rfl) (by omega) (by omega) (by omega) (by omega) ?_
  repeat (first | refine ev_go rfl (by rfl) ?_ | refine ev_gf rfl (by assumption) (by rfl) (by rfl) ?_)
  refine ev_alqN (i := b) rfl (by assumption) (by rfl) (by omega) (by omega) ?_
  rw [va_up_self]
  repeat (first | refine ev_go rfl (by rfl) ?_ | refine ev_gf rfl (by assumption) (by rfl) (by rfl) ?_)
  refine j_ev.call rfl (x_Ar_fillJ d i4 (by omega) (by omega) (-1)) ?_
  have e3 := e1 (.inl (7, 1000, .inr (.inr (.inr (.inr (va_up B b (some mem.1))))))) (.inl (1, 48, .inr (.inl (flJ (fun _ => 0) 48 (-1)))))
  have e4 := e2 (.inl (7, 1000, .inr (.inr (.inr (.inr (va_up B b (some mem.1))))))) (.inl (1, 48, .inr (.inl (flJ (fun _ => 0) 48 (-1)))))
  repeat (first | refine ev_go rfl (by rfl) ?_ | refine ev_gf rfl (by assumption) (by rfl) (by rfl) ?_)
  refine ev_aiN (i := b) rfl (by assumption) (by omega) (by omega) (by omega) ?_
  exact j_ev.ret rfl
end CHIP
