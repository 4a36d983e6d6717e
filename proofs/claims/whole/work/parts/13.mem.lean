/-! ROWS ON CELLS (own text) -/
def j_set (mem : j_M) (a : Nat) (c : j_C) : j_M := (mem.1, mem.2.1, va_up mem.2.2 a (some c))
def j_new (mem : j_M) (n : Nat) (c : Option j_C) : j_M := (mem.1 + 1, mem.2.1 + n, va_up mem.2.2 mem.1 c)
def j_in (a : Int32) (n : Nat) : Bool := !(decide (a < 0)) && Nat.blt a.toNatClampNeg n
theorem j_in_vp {a : Int32} {n : Nat} (h : j_in a n = true) : vp_in a n := by
  simp only [j_in, Bool.and_eq_true, Bool.not_eq_true', decide_eq_false_iff_not, Nat.blt_eq] at h
  rintro (q | q)
  · exact h.1 q
  · omega
theorem j_in_lt {a : Int32} {n : Nat} (h : j_in a n = true) : a.toNatClampNeg < n := by
  simp only [j_in, Bool.and_eq_true, Nat.blt_eq] at h
  exact h.2
theorem j_in_sz {a : Int32} {n k : Nat} (h : j_in a n = true) (hk : n ≤ k) : ¬ (a < 0 ∨ k ≤ a.toNatClampNeg) := by
  have h1 := j_in_lt h
  rintro (q | q)
  · exact j_in_vp h (Or.inl q)
  · omega
def j_cn (G : j_G) (z : (Nat → Int32) ⊕ (Nat → Int64) ⊕ (Nat → UInt32) ⊕ (Nat → UInt64) ⊕ (Nat → Option Nat)) : Nat → Value := match z with
  | .inl f => fun j => .int (f j)
  | .inr (.inl f) => fun j => .long (f j)
  | .inr (.inr (.inl f)) => fun j => .float (f j)
  | .inr (.inr (.inr (.inl f))) => fun j => .double (f j)
  | .inr (.inr (.inr (.inr f))) => fun j => va_rf ((f j).map (adr G))
theorem j_cell (G : j_G) (cA : ClassId) (n : Nat) (z : (Nat → Int32) ⊕ (Nat → Int64) ⊕ (Nat → UInt32) ⊕ (Nat → UInt64) ⊕ (Nat → Option Nat)) : vp_cell cA (rnq G (n, z)) = arrV cA n (j_cn G z) := by
  rcases z with f | f | f | f | f <;> rfl
theorem adr_old {G : j_G} {a : Nat} (h : a < 4) : adr G a = G.2.2.1 a := by
  unfold adr
  rw [Nat.blt_eq.mpr h]
  rfl
theorem adr_new {G : j_G} {a : Nat} (h : 4 ≤ a) : adr G a = G.2.2.2.1.size + (a - 4) := by
  unfold adr
  cases q : Nat.blt a 4 with
  | true => exact absurd (Nat.blt_eq.mp q) (by omega)
  | false => rfl
theorem j_R.arr {G : j_G} {U : State} {mem : j_M} {H : Heap} (hR : j_R G mem H) (hK : j_K G U) {a k n : Nat} {z : (Nat → Int32) ⊕ (Nat → Int64) ⊕ (Nat → UInt32) ⊕ (Nat → UInt64) ⊕ (Nat → Option Nat)} (h : mem.2.2 a = some (.inl (k, n, z))) {ty : FieldType} (ht : aty[k]? = some ty) : j_ar U H (adr G a) ty n (j_cn G z) := by
  obtain ⟨h1, h2, h3, h4, h5⟩ := hR
  obtain ⟨g1, g2, g3, g4, g5, g6, -⟩ := hK
  by_cases ha : 4 ≤ a
  · obtain ⟨-, hat⟩ := h4 a _ ha h
    have hat : H[adr G a]? = some (vp_cell (G.2.1 k) (rnq G (n, z))) := hat
    rw [j_cell] at hat
    exact ⟨_, hat, (g2 k ty ht).1 n _, (fun q => by cases q), ⟨by rw [arrV_size]; exact Nat.le_refl _, by rw [arrV_size]⟩, fun j hj => arrV_read _ _ hj⟩
  · have ha : a < 4 := by omega
    rw [h5 a ha] at h
    rw [adr_old ha]
    have hq : a < 3 → H[G.2.2.1 a]? = G.2.2.2.1[G.2.2.1 a]? := fun h3a => h3 _ (g6 a h3a)
    match a, ha, h, hq with
    | 0, _, h, hq =>
      simp only [j_old, Option.some.injEq, Sum.inl.injEq, Prod.mk.injEq] at h
      obtain ⟨rfl, rfl, rfl⟩ := h
      cases (show aty[0]? = some FieldType.int from rfl).symm.trans ht
      exact g3.kept (hq (by omega))
    | 1, _, h, hq =>
      simp only [j_old, Option.some.injEq, Sum.inl.injEq, Prod.mk.injEq] at h
      obtain ⟨rfl, rfl, rfl⟩ := h
      cases (show aty[0]? = some FieldType.int from rfl).symm.trans ht
      exact g4.kept (hq (by omega))
    | 2, _, h, hq =>
      simp only [j_old, Option.some.injEq, Sum.inl.injEq, Prod.mk.injEq] at h
      obtain ⟨rfl, rfl, rfl⟩ := h
      cases (show aty[a_Obj]? = some (FieldType.object "java/lang/Object") from rfl).symm.trans ht
      obtain ⟨cell, q1, q2, q3, q4, q5⟩ := g5.kept (hq (by omega))
      exact ⟨cell, q1, q2, q3, q4, fun j hj => absurd hj (Nat.not_lt_zero j)⟩
    | 3, _, h, _ => cases h
theorem j_R.obj {G : j_G} {mem : j_M} {H : Heap} (hR : j_R G mem H) {a c : Nat} {fs : List Value} (h : mem.2.2 a = some (.inr (c, fs))) : 4 ≤ a ∧ a < mem.1 ∧ va_at G.1 cls (adr G a, .inr (c, fs.map (rn G))) H := by
  obtain ⟨h1, h2, h3, h4, h5⟩ := hR
  by_cases ha : 4 ≤ a
  · exact ⟨ha, h4 a _ ha h⟩
  · have ha : a < 4 := by omega
    rw [h5 a ha] at h
    match a, ha, h with
    | 0, _, h => cases h
    | 1, _, h => cases h
    | 2, _, h => cases h
    | 3, _, h => cases h
theorem j_R.ar4 {G : j_G} {mem : j_M} {H : Heap} (hR : j_R G mem H) {a k n : Nat} {z : (Nat → Int32) ⊕ (Nat → Int64) ⊕ (Nat → UInt32) ⊕ (Nat → UInt64) ⊕ (Nat → Option Nat)} (h : mem.2.2 a = some (.inl (k, n, z))) (ha : 4 ≤ a) : a < mem.1 ∧ H[adr G a]? = some (arrV (G.2.1 k) n (j_cn G z)) := by
  obtain ⟨h1, h2, h3, h4, h5⟩ := hR
  obtain ⟨q, hat⟩ := h4 a _ ha h
  have hat : H[adr G a]? = some (vp_cell (G.2.1 k) (rnq G (n, z))) := hat
  rw [j_cell] at hat
  exact ⟨q, hat⟩
theorem j_R.set {G : j_G} {mem : j_M} {H H' : Heap} (hR : j_R G mem H) {a : Nat} {c : j_C} (ha : 4 ≤ a) (hl : a < mem.1) (hz : H'.size = H.size) (ho : ∀ q : Nat, q ≠ adr G a → H'[q]? = H[q]?) (hat : va_at G.1 cls (adr G a, rnc G c) H') : j_R G (j_set mem a c) H' := by
  obtain ⟨h1, h2, h3, h4, h5⟩ := hR
  have ea := adr_new (G := G) ha
  refine ⟨by rw [hz]; exact h1, h2, fun q hq => ?_, fun b d hb hd => ?_, fun b hb => ?_⟩
  · rw [ho q (by omega)]
    exact h3 q hq
  · by_cases e : b = a
    · subst e
      have hd : va_up mem.2.2 b (some c) b = some d := hd
      rw [va_up_self] at hd
      cases hd
      exact ⟨hl, hat⟩
    · have hd : va_up mem.2.2 a (some c) b = some d := hd
      rw [va_up_ne _ _ e] at hd
      obtain ⟨q1, q2⟩ := h4 b d hb hd
      refine ⟨q1, q2.kept (ho _ ?_)⟩
      have eb := adr_new (G := G) hb
      show adr G b ≠ adr G a
      omega
  · show va_up mem.2.2 a (some c) b = _
    rw [va_up_ne _ _ (by omega)]
    exact h5 b hb
theorem j_R.push {G : j_G} {mem : j_M} {H H' : Heap} (hR : j_R G mem H) {n : Nat} {oc : Option j_C} (hz : H'.size = H.size + 1) (ho : ∀ q : Nat, q < H.size → H'[q]? = H[q]?) (hat : ∀ c, oc = some c → va_at G.1 cls (adr G mem.1, rnc G c) H') : j_R G (j_new mem n oc) H' := by
  obtain ⟨h1, h2, h3, h4, h5⟩ := hR
  have hm : j_new mem n oc = (mem.1 + 1, mem.2.1 + n, va_up mem.2.2 mem.1 oc) := rfl
  rw [hm]
  refine ⟨by rw [hz]; show _ = _ + (mem.1 + 1); omega, by show _ ≤ mem.1 + 1; omega, fun q hq => ?_, fun b d hb hd => ?_, fun b hb => ?_⟩
  · rw [ho q (by omega)]
    exact h3 q hq
  · have hd : va_up mem.2.2 mem.1 oc b = some d := hd
    by_cases e : b = mem.1
    · subst e
      rw [va_up_self] at hd
      exact ⟨Nat.lt_succ_self _, hat d hd⟩
    · rw [va_up_ne _ _ e] at hd
      obtain ⟨q1, q2⟩ := h4 b d hb hd
      refine ⟨Nat.lt_succ_of_lt q1, q2.kept (ho _ ?_)⟩
      have eb := adr_new (G := G) hb
      show adr G b < H.size
      omega
  · show va_up mem.2.2 mem.1 oc b = _
    rw [va_up_ne _ _ (by omega)]
    exact h5 b hb
theorem j_R.top {G : j_G} {mem : j_M} {H : Heap} (hR : j_R G mem H) : adr G mem.1 = H.size := by
  obtain ⟨h1, h2, -⟩ := hR
  rw [adr_new h2]
  omega
/-- fields: a link to the field by its own class's name, or by another that finds the same -/
def j_fl (own : String) (ix : Nat) (t : String × String × String × Bool) : Prop := ∃ ref, Cond.fieldLink own ix ref t.2.1 t.2.2.1 ∈ lwg ∧ (ref = t.1 ∨ Cond.sameField ref t.1 t.2.1 t.2.2.1 ∈ lwg)
theorem j_fl.same {own : String} {ix : Nat} {t : String × String × String × Bool} (h : j_fl own ix t) : ∃ ref, Cond.fieldLink own ix ref t.2.1 t.2.2.1 ∈ lwg ∧ ∀ (A : Array Value) (U : State), (∀ w ∈ lwg, w.before A U = true) → ∀ x, U.fieldFound? t.1 t.2.1 t.2.2.1 = some x → U.fieldFound? ref t.2.1 t.2.2.1 = some x := by
  obtain ⟨ref, h1, rfl | h2⟩ := h
  · exact ⟨_, h1, fun _ _ _ _ h => h⟩
  · exact ⟨ref, h1, fun A U hts x hx => u_same (hts _ h2) x hx⟩
def j_fd (own : String) (ix k c : Nat) : Prop := ∃ (C : String) (T : u_T) (N : Nat), cls[c]? = some (C, T, N) ∧ (∀ w ∈ u_ws C T N, w ∈ lwg) ∧ k < N ∧ j_fl own ix (T k)
def j_gf (cs : List Nat) (k n : Nat) : j_S := fun lc st mem => match st with
  | .ref a :: r => match mem.2.2 a with
    | some (.inr (c, fs)) => bif cs.contains c then (match fs[k]? with
      | some v => some (.inl (n, lc, v :: r, mem))
      | none => none) else none
    | _ => none
  | _ => none
def j_pf (cs : List Nat) (k t n : Nat) : j_S := fun lc st mem => match st with
  | v :: .ref a :: r => match mem.2.2 a with
    | some (.inr (c, fs)) => bif cs.contains c && j_kr t v && Nat.blt k fs.length then some (.inl (n, lc, r, j_set mem a (.inr (c, fs.set k v)))) else none
    | _ => none
  | _ => none
section MEMS
variable {G : j_G} {tm : Nat → MethodName × Cond} {i : j_I} {pc : Nat}
theorem j_K.va {U : State} (hK : j_K G U) : va_K G.1 cls [] U := ⟨hK.1, fun k q h => by simp at h⟩
theorem r_getfield {cs : List Nat} {ix k : Nat} (hf : ∀ c ∈ cs, j_fd i.1 ix k c) (hd : decode i.2.1 pc = .ok (.getfield ix, 3)) : j_ok G tm i pc (j_gf cs k (pc + 3)) := by
  intro lc st mem act ha
  unfold j_gf at ha
  split at ha
  next a r =>
    split at ha
    next c fs hm =>
      cases hcs : cs.contains c with
      | false => rw [hcs] at ha; cases ha
      | true =>
        simp only [hcs, cond_true] at ha
        split at ha
        next v hv =>
          cases ha
          refine ⟨Nat.le_refl _, Nat.le_refl _, fun x H locs cells slots Q ls hc hR hH hB h1 h2 kk => ?_⟩
          have k1 := kk H locs ls hR hH hB
          simp only [Nat.sub_self, Nat.add_zero] at k1
          obtain ⟨hx, hb, hml, hown, hts, hK, -⟩ := hc
          obtain ⟨C, T, N, e1, e2, e3, e4⟩ := hf c (List.contains_iff_mem.mp hcs)
          obtain ⟨-, -, hat⟩ := hR.obj hm
          have hP : va_P G.1 cls [(adr G a, .inr (c, fs.map (rn G)))] H := fun k q h => by
            have hz : k < 1 := (List.getElem?_eq_some_iff.mp h).1
            rw [show k = 0 by omega] at h
            cases h
            exact hat
          obtain ⟨ref, e5, e6⟩ := e4.same
          exact va_get hx hb hts e2 hown hK.va hP 0 rfl e1 k e3 (hts _ e5) (e6 _ _ hts) (by rw [List.getElem?_map, hv]; rfl) hd k1
        next => cases ha
    next => cases ha
  next => cases ha
def j_tk (t : Nat) (ty : FieldType) : Prop := (t = 0 ∧ ty = .int) ∨ (t = 1 ∧ ty = .long) ∨ (t = 2 ∧ ((∃ n, ty = .object n) ∨ ∃ u, ty = .array u)) ∨ (t = 3 ∧ ty = .boolean)
theorem j_tk_ok {t : Nat} {ty : FieldType} (h : j_tk t ty) {v : Value} (hv : j_kr t v = true) : narrow ty (rn G v) = rn G v ∧ fits ty (rn G v) = true := by
  rcases h with ⟨rfl, rfl⟩ | ⟨rfl, rfl⟩ | ⟨rfl, ⟨n, rfl⟩ | ⟨u, rfl⟩⟩ | ⟨rfl, rfl⟩
  · cases v <;> first | (simp [j_kr] at hv; done) | exact ⟨rfl, rfl⟩
  · cases v <;> first | (simp [j_kr] at hv; done) | exact ⟨rfl, rfl⟩
  · cases v <;> first | (simp [j_kr] at hv; done) | exact ⟨rfl, rfl⟩
  · cases v <;> first | (simp [j_kr] at hv; done) | exact ⟨rfl, rfl⟩
  · cases v <;> first | (simp [j_kr] at hv; done) | skip
    rename_i y
    simp only [j_kr, Bool.or_eq_true, beq_iff_eq] at hv
    rcases hv with rfl | rfl <;> exact ⟨rfl, rfl⟩
def j_pd (own : String) (ix k t : Nat) (fin : Bool) (c : Nat) : Prop := ∃ (C : String) (T : u_T) (N : Nat) (ty0 : Nat → FieldType) (ty : FieldType), cls[c]? = some (C, T, N) ∧ (∀ w ∈ u_ws C T N, w ∈ lwg) ∧ (∀ k, k < N → parseFieldDescriptor (T k).2.2.1 = some (ty0 k)) ∧
  (∀ a, a < N → ∀ b, b < N → a ≠ b → (T a).2.1 ≠ (T b).2.1) ∧ k < N ∧ (T k).2.2.2 = fin ∧ parseFieldDescriptor (T k).2.2.1 = some ty ∧ j_tk t ty ∧ j_fl own ix (T k) ∧ (fin = true → (T k).1 = own)
theorem r_putfield {cs : List Nat} {ix k t : Nat} {fin : Bool} (hf : ∀ c ∈ cs, j_pd i.1 ix k t fin c) (hi : fin = true → i.2.2.2.1 = true) (hd : decode i.2.1 pc = .ok (.putfield ix, 3)) : j_ok G tm i pc (j_pf cs k t (pc + 3)) := by
  intro lc st mem act ha
  unfold j_pf at ha
  split at ha
  next v a r =>
    split at ha
    next c fs hm =>
      cases hcs : cs.contains c && j_kr t v && Nat.blt k fs.length with
      | false => rw [hcs] at ha; cases ha
      | true =>
        simp only [hcs, cond_true, Option.some.injEq] at ha
        subst ha
        simp only [Bool.and_eq_true, Nat.blt_eq] at hcs
        obtain ⟨⟨hcs, hkr⟩, hlen⟩ := hcs
        refine ⟨Nat.le_refl _, Nat.le_refl _, fun x H locs cells slots Q ls hc hR hH hB h1 h2 kk => ?_⟩
        obtain ⟨hx, hb, hml, hown, hts, hK, -, hin, -⟩ := hc
        obtain ⟨C, T, N, ty0, ty, e1, e2, e3, e4, e5, e6, e7, e8, e9, e10⟩ := hf c (List.contains_iff_mem.mp hcs)
        obtain ⟨ha4, hal, hat⟩ := hR.obj hm
        have hfit := j_tk_ok (G := G) e8 hkr
        obtain ⟨ref, e9, e11⟩ := e9.same
        have hap := va_apart (own := i.1) hts e2 ty0 e3 e4 hK.va e1
        have hl' : k < (fs.map (rn G)).length := by rw [List.length_map]; exact hlen
        have hset : (fs.set k v).map (rn G) = (fs.map (rn G)).set k (rn G v) := by rw [List.map_set]
        obtain ⟨r0, g1, cell, q1, q2, q3, q4⟩ := hat
        have hr : r0 = (C, T, N) := Option.some.inj (g1.symm.trans e1)
        subst hr
        obtain ⟨hS, hfc, kC, hkC, hkind⟩ := hK.1 c _ e1
        obtain ⟨cf, kf, fi, f, hfi, hsl⟩ := hS k e5
        have hlay := hts _ (e2 _ (u_in_lay e5))
        have hst := (u_facts hfc hkC (u_lays hts e2 e5) hfi).1
        have fin' : ∀ H' : Heap, H'[adr G a]? = some (cell.setSlot f.slot (rn G v)) → H'.size = H.size → (∀ q, q ≠ adr G a → H'[q]? = H[q]?) → j_W x H' (locs ++ [⟨adr G a, f.slot⟩]) cells slots Q (F0 (jm x) (pc + 3) ls (r.map (rn G))) := by
          intro H' z1 z2 z3
          rw [hsl] at z1
          have hat' : va_at G.1 cls (adr G a, rnc G (.inr (c, fs.set k v))) H' := by
            show ∃ r : vw_C, _
            refine ⟨_, e1, ?_⟩
            show t_OB (adr G a) (G.1.1 c) N (G.1.2 c) H' (vp_V ((fs.set k v).map (rn G)))
            rw [hset]
            exact t_OB.to (V := updV (vp_V (fs.map (rn G))) k (rn G v)) ⟨_, z1, q2, q3, t_set q4 hap e5 (rn G v)⟩ (fun j _ => vp_updV_set hl' (rn G v) j)
          have k1 := kk H' (locs ++ [⟨adr G a, f.slot⟩]) ls (hR.set ha4 hal z2 z3 hat') hH (fun q hq => by
            rcases List.mem_append.mp hq with hq | hq
            · exact hB q hq
            · rw [List.mem_singleton.mp hq]
              show _ ≤ adr G a
              rw [adr_new ha4]
              omega)
          simp only [j_set, Nat.sub_self, Nat.add_zero] at k1
          exact k1
        cases fin with
        | false =>
          unfold u_lay at hlay
          rw [if_neg (by rw [e6]; decide)] at hlay
          have h6 := u_store hfc hkC hkind hlay hfi e7 hfit.1 hfit.2
          exact W.putK hx hb (f := f) ⟨hown, hts _ e9, ⟨_, _, _, e11 _ _ hts _ hfi⟩, hst⟩ (by rw [q2]; exact h6) q1 q3 (by rw [hsl]; exact k2_hasslot (q4 k e5)) rfl rfl hd fin'
        | true =>
          unfold u_lay at hlay
          rw [if_pos e6] at hlay
          have hcf : (jm x).cls = cf := by
            obtain ⟨_, _, c', _, _, _, -, -, hf', -, -, -, hown2, -⟩ := Cond.laysFinal_spec hlay
            have z1 : c' = cf := by have := hfi.symm.trans hf'; simp at this; exact this.1.symm
            rw [e10 rfl] at hown2
            rw [← z1]; exact Option.some.inj (hown.symm.trans hown2)
          have h6 := u_fits hfc hkC hkind (Or.inr hlay) hfi e7 hfit.1 hfit.2
          exact W.putFinK hx hb hown (hts _ e9) (e11 _ _ hts _ hfi) hst hcf (hin (hi rfl)) (by rw [q2]; exact h6) q1 q3 (by rw [hsl]; exact k2_hasslot (q4 k e5)) rfl rfl hd fin'
    next => cases ha
  next => cases ha
/-! arrays -/
def j_al (t : Nat) (n : Nat) : j_S := fun lc st mem => match st with
  | .int a :: .ref b :: r => match mem.2.2 b with
    | some (.inl (k, len, z)) => bif (k == t) && j_in a len then (match z with
      | .inl f => some (.inl (n, lc, .int (f a.toNatClampNeg) :: r, mem))
      | .inr (.inl f) => some (.inl (n, lc, .long (f a.toNatClampNeg) :: r, mem))
      | .inr (.inr (.inr (.inr f))) => some (.inl (n, lc, va_rf (f a.toNatClampNeg) :: r, mem))
      | _ => none) else none
    | _ => none
  | _ => none
def j_an (n : Nat) : j_S := fun lc st mem => match st with
  | .ref b :: r => match mem.2.2 b with
    | some (.inl (k, len, _)) => bif Nat.blt k aty.length then some (.inl (n, lc, .int (Int32.ofNat len) :: r, mem)) else none
    | _ => none
  | _ => none
theorem rn_rf (r : Option Nat) : rn G (va_rf r) = va_rf (r.map (adr G)) := by cases r <;> rfl
/-- a reading row of an array: what is wanted of it -/
theorem r_ald {t : Nat} {ty : FieldType} (ht : aty[t]? = some ty)
    (hw : ∀ (x : j_X) (H : Heap) (locs : List Loc) (cells slots : Nat) (Q : State → Prop) (ls : Array Slot) (rest : List Value) (b : Nat) (a : Int32) (v : Value) (cell : Cell), j_cx G i x → H[b]? = some cell → (js x).isArrayOf cell ty → cell.vm ≠ .unknown → ¬ (a < 0 ∨ cell.slots.size ≤ a.toNatClampNeg) → cell.slots[a.toNatClampNeg]? = some v →
      j_W x H locs cells slots Q (F0 (jm x) (pc + 1) ls (v :: rest)) → j_W x H locs cells slots Q (F0 (jm x) pc ls (.int a :: .ref b :: rest))) : j_ok G tm i pc (j_al t (pc + 1)) := by
  intro lc st mem act ha
  unfold j_al at ha
  split at ha
  next a b r =>
    split at ha
    next k len z hm =>
      cases hcs : (k == t) && j_in a len with
      | false => rw [hcs] at ha; cases ha
      | true =>
        simp only [hcs, cond_true] at ha
        simp only [Bool.and_eq_true, beq_iff_eq] at hcs
        obtain ⟨rfl, hin⟩ := hcs
        have key : ∀ v, rn G v = j_cn G z a.toNatClampNeg → j_oa G tm i pc lc (.int a :: .ref b :: r) mem (.inl (pc + 1, lc, v :: r, mem)) := by
          intro v hv
          refine ⟨Nat.le_refl _, Nat.le_refl _, fun x H locs cells slots Q ls hc hR hH hB h1 h2 kk => ?_⟩
          have k1 := kk H locs ls hR hH hB
          simp only [Nat.sub_self, Nat.add_zero] at k1
          obtain ⟨cell, q1, q2, q3, q4, q5⟩ := hR.arr hc.2.2.2.2.2.1 hm ht
          refine hw x H locs cells slots Q ls _ (adr G b) a (rn G v) cell hc q1 q2 q3 (j_in_sz hin q4.1) ?_ k1
          rw [q5 _ (j_in_lt hin), hv]
        split at ha
        next f => cases ha; exact key _ rfl
        next f => cases ha; exact key _ rfl
        next f => cases ha; exact key _ (rn_rf _)
        next => cases ha
    next => cases ha
  next => cases ha
theorem r_iaload (hd : decode i.2.1 pc = .ok (.iaload, 1)) : j_ok G tm i pc (j_al 0 (pc + 1)) :=
  r_ald rfl fun x H locs cells slots Q ls rest b a v cell hc h1 h2 h3 h4 h5 k => W.iald hc.1 hc.2.1 h1 h2 h3 h4 h5 rfl rfl hd k
theorem r_laload (hd : decode i.2.1 pc = .ok (.laload, 1)) : j_ok G tm i pc (j_al 1 (pc + 1)) :=
  r_ald rfl fun x H locs cells slots Q ls rest b a v cell hc h1 h2 h3 h4 h5 k => W.lald hc.1 hc.2.1 h1 h2 h3 h4 h5 rfl rfl hd k
theorem r_baload (hd : decode i.2.1 pc = .ok (.baload, 1)) : j_ok G tm i pc (j_al 2 (pc + 1)) :=
  r_ald rfl fun x H locs cells slots Q ls rest b a v cell hc h1 h2 h3 h4 h5 k => W.bald hc.1 hc.2.1 h1 h2 h3 h4 h5 rfl rfl hd k
theorem r_aaload {t : Nat} {ty : FieldType} (ht : aty[t]? = some ty) (href : ty.isReference = true) (hd : decode i.2.1 pc = .ok (.aaload, 1)) : j_ok G tm i pc (j_al t (pc + 1)) :=
  r_ald ht fun x H locs cells slots Q ls rest b a v cell hc h1 h2 h3 h4 h5 k => W.aald hc.1 hc.2.1 h1 h2 href h3 h4 h5 rfl rfl hd k
theorem r_alen (hd : decode i.2.1 pc = .ok (.arraylength, 1)) : j_ok G tm i pc (j_an (pc + 1)) := by
  intro lc st mem act ha
  unfold j_an at ha
  split at ha
  next b r =>
    split at ha
    next k len z hm =>
      cases hcs : Nat.blt k aty.length with
      | false => rw [hcs] at ha; cases ha
      | true =>
        simp only [hcs, cond_true, Option.some.injEq] at ha
        subst ha
        have hk := Nat.blt_eq.mp hcs
        refine ⟨Nat.le_refl _, Nat.le_refl _, fun x H locs cells slots Q ls hc hR hH hB h1 h2 kk => ?_⟩
        have k1 := kk H locs ls hR hH hB
        simp only [Nat.sub_self, Nat.add_zero] at k1
        obtain ⟨cell, q1, q2, q3, q4, q5⟩ := hR.arr hc.2.2.2.2.2.1 hm (List.getElem?_eq_getElem hk)
        exact W.alen (n := Int32.ofNat len) hc.1 hc.2.1 q1 q2 q4.2 rfl rfl hd k1
    next => cases ha
  next => cases ha
/-- stores -/
def j_ai (n : Nat) : j_S := fun lc st mem => match st with
  | .int y :: .int a :: .ref b :: r => match mem.2.2 b with
    | some (.inl (k, len, .inl f)) => bif (k == 0) && j_in a len && Nat.ble 4 b then some (.inl (n, lc, r, j_set mem b (.inl (k, len, .inl (upd f a.toNatClampNeg y))))) else none
    | _ => none
  | _ => none
def j_ab (n : Nat) : j_S := fun lc st mem => match st with
  | .int y :: .int a :: .ref b :: r => match mem.2.2 b with
    | some (.inl (k, len, .inl f)) => bif (k == 2) && j_in a len && Nat.ble 4 b then some (.inl (n, lc, r, j_set mem b (.inl (k, len, .inl (upd f a.toNatClampNeg (vp_nar .byte y)))))) else none
    | _ => none
  | _ => none
def j_aj (n : Nat) : j_S := fun lc st mem => match st with
  | .long y :: .int a :: .ref b :: r => match mem.2.2 b with
    | some (.inl (k, len, .inr (.inl f))) => bif (k == 1) && j_in a len && Nat.ble 4 b then some (.inl (n, lc, r, j_set mem b (.inl (k, len, .inr (.inl (vp_updL f a.toNatClampNeg y)))))) else none
    | _ => none
  | _ => none
theorem r_iastore (hd : decode i.2.1 pc = .ok (.iastore, 1)) : j_ok G tm i pc (j_ai (pc + 1)) := by
  intro lc st mem act ha
  unfold j_ai at ha
  split at ha
  next y a b r =>
    split at ha
    next k len f hm =>
      cases hcs : (k == 0) && j_in a len && Nat.ble 4 b with
      | false => rw [hcs] at ha; cases ha
      | true =>
        simp only [hcs, cond_true, Option.some.injEq] at ha
        subst ha
        simp only [Bool.and_eq_true, beq_iff_eq, Nat.ble_eq] at hcs
        obtain ⟨⟨rfl, hin⟩, h4⟩ := hcs
        refine ⟨Nat.le_refl _, Nat.le_refl _, fun x H locs cells slots Q ls hc hR hH hB h1 h2 kk => ?_⟩
        obtain ⟨hl, hcell⟩ := hR.ar4 hm h4
        refine W.iast hc.1 hc.2.1 hcell ((hc.2.2.2.2.2.1.2.1 0 _ rfl).1 len _) (fun q => by cases q) (by rw [arrV_size]; exact j_in_vp hin) rfl rfl hd fun H' z1 z2 z3 => ?_
        have hat' : va_at G.1 cls (adr G b, rnc G (.inl (0, len, .inl (upd f a.toNatClampNeg y)))) H' := by
          show H'[adr G b]? = some (vp_cell (G.2.1 0) (rnq G (len, .inl (upd f a.toNatClampNeg y))))
          rw [j_cell, z1, arrV_store]
          congr 2
          funext q
          by_cases hq : q = a.toNatClampNeg
          · subst hq
            simp [updV, upd, j_cn]
            try rfl
          · simp [updV, upd, j_cn, hq]
        have k1 := kk H' (locs ++ [⟨adr G b, a.toNatClampNeg⟩]) ls (hR.set h4 hl z2 z3 hat') hH (fun q hq => by
          rcases List.mem_append.mp hq with hq | hq
          · exact hB q hq
          · rw [List.mem_singleton.mp hq]
            show _ ≤ adr G b
            rw [adr_new h4]
            omega)
        simp only [j_set, Nat.sub_self, Nat.add_zero] at k1
        exact k1
    next => cases ha
  next => cases ha
theorem r_bastore (hd : decode i.2.1 pc = .ok (.bastore, 1)) : j_ok G tm i pc (j_ab (pc + 1)) := by
  intro lc st mem act ha
  unfold j_ab at ha
  split at ha
  next y a b r =>
    split at ha
    next k len f hm =>
      cases hcs : (k == 2) && j_in a len && Nat.ble 4 b with
      | false => rw [hcs] at ha; cases ha
      | true =>
        simp only [hcs, cond_true, Option.some.injEq] at ha
        subst ha
        simp only [Bool.and_eq_true, beq_iff_eq, Nat.ble_eq] at hcs
        obtain ⟨⟨rfl, hin⟩, h4⟩ := hcs
        refine ⟨Nat.le_refl _, Nat.le_refl _, fun x H locs cells slots Q ls hc hR hH hB h1 h2 kk => ?_⟩
        obtain ⟨hl, hcell⟩ := hR.ar4 hm h4
        refine W.bast hc.1 hc.2.1 hcell ((hc.2.2.2.2.2.1.2.1 2 _ rfl).1 len _) (fun q => by cases q) (by rw [arrV_size]; exact j_in_vp hin) rfl rfl hd fun H' z1 z2 z3 => ?_
        have hat' : va_at G.1 cls (adr G b, rnc G (.inl (2, len, .inl (upd f a.toNatClampNeg (vp_nar .byte y))))) H' := by
          show H'[adr G b]? = some (vp_cell (G.2.1 2) (rnq G (len, .inl (upd f a.toNatClampNeg (vp_nar .byte y)))))
          rw [j_cell, z1, arrV_store]
          congr 2
          funext q
          by_cases hq : q = a.toNatClampNeg
          · subst hq
            simp [updV, upd, j_cn, vp_nar]
            try rfl
          · simp [updV, upd, j_cn, hq]
        have k1 := kk H' (locs ++ [⟨adr G b, a.toNatClampNeg⟩]) ls (hR.set h4 hl z2 z3 hat') hH (fun q hq => by
          rcases List.mem_append.mp hq with hq | hq
          · exact hB q hq
          · rw [List.mem_singleton.mp hq]
            show _ ≤ adr G b
            rw [adr_new h4]
            omega)
        simp only [j_set, Nat.sub_self, Nat.add_zero] at k1
        exact k1
    next => cases ha
  next => cases ha
theorem r_lastore (hd : decode i.2.1 pc = .ok (.lastore, 1)) : j_ok G tm i pc (j_aj (pc + 1)) := by
  intro lc st mem act ha
  unfold j_aj at ha
  split at ha
  next y a b r =>
    split at ha
    next k len f hm =>
      cases hcs : (k == 1) && j_in a len && Nat.ble 4 b with
      | false => rw [hcs] at ha; cases ha
      | true =>
        simp only [hcs, cond_true, Option.some.injEq] at ha
        subst ha
        simp only [Bool.and_eq_true, beq_iff_eq, Nat.ble_eq] at hcs
        obtain ⟨⟨rfl, hin⟩, h4⟩ := hcs
        refine ⟨Nat.le_refl _, Nat.le_refl _, fun x H locs cells slots Q ls hc hR hH hB h1 h2 kk => ?_⟩
        obtain ⟨hl, hcell⟩ := hR.ar4 hm h4
        refine W.last hc.1 hc.2.1 hcell ((hc.2.2.2.2.2.1.2.1 1 _ rfl).1 len _) (fun q => by cases q) (by rw [arrV_size]; exact j_in_vp hin) rfl rfl hd fun H' z1 z2 z3 => ?_
        have hat' : va_at G.1 cls (adr G b, rnc G (.inl (1, len, .inr (.inl (vp_updL f a.toNatClampNeg y))))) H' := by
          show H'[adr G b]? = some (vp_cell (G.2.1 1) (rnq G (len, .inr (.inl (vp_updL f a.toNatClampNeg y)))))
          rw [j_cell, z1, arrV_store]
          congr 2
          funext q
          by_cases hq : q = a.toNatClampNeg
          · subst hq
            simp [updV, vp_updL, j_cn]
            try rfl
          · simp [updV, vp_updL, j_cn, hq]
        have k1 := kk H' (locs ++ [⟨adr G b, a.toNatClampNeg⟩]) ls (hR.set h4 hl z2 z3 hat') hH (fun q hq => by
          rcases List.mem_append.mp hq with hq | hq
          · exact hB q hq
          · rw [List.mem_singleton.mp hq]
            show _ ≤ adr G b
            rw [adr_new h4]
            omega)
        simp only [j_set, Nat.sub_self, Nat.add_zero] at k1
        exact k1
    next => cases ha
  next => cases ha
/-- what may stand in an array of references -/
def j_fit (t : Nat) (c : Option j_C) : Bool := match c with
  | some (.inr (k, _)) => ((t == 3) && (k == 8)) || ((t == 4) && (k == 4)) || ((t == 4) && (k == 5)) || ((t == 5) && (k == 5)) || ((t == 6) && (k == 9))
  | some (.inl (k, _)) => (t == 7) && (k == 1)
  | none => false
def j_aq (n : Nat) : j_S := fun lc st mem => match st with
  | .ref v :: .int a :: .ref b :: r => match mem.2.2 b with
    | some (.inl (k, len, .inr (.inr (.inr (.inr f))))) => bif j_fit k (mem.2.2 v) && j_in a len && Nat.ble 4 b && Nat.ble 4 v then some (.inl (n, lc, r, j_set mem b (.inl (k, len, .inr (.inr (.inr (.inr (va_up f a.toNatClampNeg (some v))))))))) else none
    | _ => none
  | .null :: .int a :: .ref b :: r => match mem.2.2 b with
    | some (.inl (k, len, .inr (.inr (.inr (.inr f))))) => bif (k == 6) && j_in a len && Nat.ble 4 b then some (.inl (n, lc, r, j_set mem b (.inl (k, len, .inr (.inr (.inr (.inr (va_up f a.toNatClampNeg none)))))))) else none
    | _ => none
  | _ => none
/-- new objects and arrays -/
def j_nw (c N : Nat) (fs : List Value) (n : Nat) : j_S := fun lc st mem => some (.inl (n, lc, .ref mem.1 :: st, j_new mem N (some (.inr (c, fs)))))
theorem r_new {c N ix : Nat} {fs : List Value} {C : String} {T : u_T} {ty : Nat → FieldType} (hc : cls[c]? = some (C, T, N)) (hw : ∀ w ∈ u_ws C T N, w ∈ lwg) (hty : ∀ k, k < N → parseFieldDescriptor (T k).2.2.1 = some (ty k)) (hl : Cond.classLink i.1 ix C ∈ lwg) (hin : Cond.instantiable C N ∈ lwg) (hini : Cond.initialized C ∈ lwg)
    (hfs : ∀ j, j < N → defaultValue (ty j) = vp_V fs j) (hrn : ∀ v ∈ fs, (∀ a, v ≠ .ref a)) (hd : decode i.2.1 pc = .ok (.new ix, 3)) : j_ok G tm i pc (j_nw c N fs (pc + 3)) := by
  intro lc st mem act ha
  unfold j_nw at ha
  cases ha
  refine ⟨Nat.le_succ _, Nat.le_add_right _ _, fun x H locs cells slots Q ls hx hR hH hB h1 h2 kk => ?_⟩
  have e1 : (j_new mem N (some (.inr (c, fs)))).1 - mem.1 = 1 := by show mem.1 + 1 - mem.1 = 1; omega
  have e2 : (j_new mem N (some (.inr (c, fs)))).2.1 - mem.2.1 = N := by show mem.2.1 + N - mem.2.1 = N; omega
  rw [e1] at h1 kk
  rw [e2] at h2 kk
  obtain ⟨hex, hb, hml, hown, hts, hK, -⟩ := hx
  have hKn := hK.1 c _ hc
  refine W.newcK hex hb hown (hts _ hl) (hts _ hin) (hts _ hini) rfl hd h1 h2 hKn.2.1 rfl fun H1 kC hkC z1 z2 z3 => ?_
  have hmap : fs.map (rn G) = fs := by
    have : ∀ l : List Value, (∀ v ∈ l, (∀ a, v ≠ .ref a)) → l.map (rn G) = l := by
      intro l
      induction l with
      | nil => intro _; rfl
      | cons v r ih =>
        intro h
        rw [List.map_cons, ih (fun w hw => h w (List.mem_cons_of_mem _ hw))]
        have hv := h v List.mem_cons_self
        cases v <;> first | rfl | exact absurd rfl (hv _)
    exact this fs hrn
  have hat : ∀ c0, some (Sum.inr (c, fs) : j_C) = some c0 → va_at G.1 cls (adr G mem.1, rnc G c0) H1 := by
    intro c0 h0
    cases h0
    show ∃ r : vw_C, _
    refine ⟨_, hc, ?_⟩
    show t_OB (adr G mem.1) (G.1.1 c) N (G.1.2 c) H1 (vp_V (fs.map (rn G)))
    rw [hmap, hR.top]
    exact (u_born ty hts hw hKn hkC z1 hty).to hfs
  have k1 := kk H1 locs ls (hR.push z2 z3 hat) hH hB
  rw [List.map_cons, show rn G (.ref mem.1) = .ref (adr G mem.1) from rfl, hR.top] at k1
  exact k1
def j_ze (t : Nat) : (Nat → Int32) ⊕ (Nat → Int64) ⊕ (Nat → UInt32) ⊕ (Nat → UInt64) ⊕ (Nat → Option Nat) := match t with
  | 0 => .inl (fun _ => 0)
  | 1 => .inr (.inl (fun _ => 0))
  | 2 => .inl (fun _ => 0)
  | 8 => .inl (fun _ => 0)
  | _ => .inr (.inr (.inr (.inr (fun _ => none))))
def j_na (t : Nat) (n : Nat) : j_S := fun lc st mem => match st with
  | .int a :: r => bif !(decide (a < 0)) && Nat.ble a.toNatClampNeg 60000000 then some (.inl (n, lc, .ref mem.1 :: r, j_new mem a.toNatClampNeg (some (.inl (t, a.toNatClampNeg, j_ze t))))) else none
  | _ => none
theorem r_newarray {t : Nat} {at_ : ArrayType} {ty : FieldType} (ht : aty[t]? = some ty) (hty : newarray.typeOf at_ = ty) (hw : Cond.arrayClass ty ∈ lwg) (hby : componentBytes ty ≤ 8) (hz : ∀ j, j_cn G (j_ze t) j = defaultValue ty) (hRA : ∀ (U : State) (cA : ClassId), U.vm.findClass ("[" ++ ty.toString) = some cA → va_RA U (G.2.1 t) ty → G.2.1 t = cA) (hd : decode i.2.1 pc = .ok (.newarray at_, 2)) : j_ok G tm i pc (j_na t (pc + 2)) := by
  intro lc st mem act ha
  unfold j_na at ha
  split at ha
  next a r =>
    cases hcs : !(decide (a < 0)) && Nat.ble a.toNatClampNeg 60000000 with
    | false => rw [hcs] at ha; cases ha
    | true =>
      simp only [hcs, cond_true, Option.some.injEq] at ha
      subst ha
      simp only [Bool.and_eq_true, Bool.not_eq_true', decide_eq_false_iff_not, Nat.ble_eq] at hcs
      subst hty
      refine ⟨Nat.le_succ _, Nat.le_add_right _ _, fun x H locs cells slots Q ls hx hR hH hB h1 h2 kk => ?_⟩
      generalize hmm : j_new mem a.toNatClampNeg (some (.inl (t, a.toNatClampNeg, j_ze t))) = mm at h1 h2 kk
      have e1 : mm.1 - mem.1 = 1 := by rw [← hmm]; show mem.1 + 1 - mem.1 = 1; omega
      have e2 : mm.2.1 - mem.2.1 = a.toNatClampNeg := by rw [← hmm]; show mem.2.1 + a.toNatClampNeg - mem.2.1 = _; omega
      rw [e1] at h1 kk
      rw [e2] at h2 kk
      obtain ⟨hex, hb, hml, hown, hts, hK, -⟩ := hx
      refine va_newaK hex hb (hts _ hw) rfl hd rfl hcs.1 rfl (Nat.le_trans (Nat.mul_le_mul_left _ hby) (by omega)) h1 h2 rfl fun H1 cA z1 z2 z3 _ z5 => ?_
      have hcA := hRA _ cA z5 (hK.2.1 t _ ht).2
      have hat : ∀ c0, some (Sum.inl (t, a.toNatClampNeg, j_ze t) : j_C) = some c0 → va_at G.1 cls (adr G mem.1, rnc G c0) H1 := by
        intro c0 h0
        cases h0
        show H1[adr G mem.1]? = some (vp_cell (G.2.1 t) (rnq G (a.toNatClampNeg, j_ze t)))
        rw [j_cell, hR.top, hcA, z1]
        congr 2
        funext j
        exact (hz j).symm
      have k1 := kk H1 locs ls (by rw [← hmm]; exact hR.push z2 z3 hat) hH hB
      rw [List.map_cons, show rn G (.ref mem.1) = .ref (adr G mem.1) from rfl, hR.top] at k1
      exact k1
  next => cases ha
end MEMS
