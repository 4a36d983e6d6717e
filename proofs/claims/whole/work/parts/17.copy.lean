/-! System.arraycopy (own text) -/
abbrev j_Z : Type := (Nat → Int32) ⊕ (Nat → Int64) ⊕ (Nat → UInt32) ⊕ (Nat → UInt64) ⊕ (Nat → Option Nat)
def j_cpw (i : j_I) (ix : Nat) : Prop := Cond.methodLink i.1 ix arraycopyName ∈ lwg ∧ Cond.native arraycopyName ∈ lwg ∧ Cond.static arraycopyName ∈ lwg ∧ Cond.initialized "java/lang/System" ∈ lwg
section COPY
variable {G : j_G} {tm : Nat → MethodName × Cond} {i : j_I} {pc : Nat}
theorem j_nn (z : Int32) (hz : ¬ z < 0) : z.toInt = (z.toNatClampNeg : Int) := by
  have hz0 : (0 : Int) ≤ z.toInt := by
    have := Int32.not_lt.mp hz
    simpa using Int32.le_iff_toInt_le.mp this
  show z.toInt = ((z.toInt.toNat : Nat) : Int)
  omega
theorem j_copy {x : j_X} {H : Heap} {locs : List Loc} {cells slots : Nat} {Q : State → Prop} {ls : Array Slot} {rest : List Value} {mem : j_M} {ix a b k n0 n1 : Nat} {z0 z1 z2 : j_Z} {ty : FieldType} {sp dp n : Int32} (hcx : j_cx G i x) (hR : j_R G mem H) (hls : ls.size = i.2.2.1)
    (hm0 : mem.2.2 a = some (.inl (k, n0, z0))) (hm1 : mem.2.2 b = some (.inl (k, n1, z1))) (h4a : 4 ≤ a) (h4b : 4 ≤ b) (ht : aty[k]? = some ty) (hw : j_cpw i ix) (h1 : ¬ sp < 0) (h2 : ¬ dp < 0) (h3 : ¬ n < 0) (h4 : sp.toNatClampNeg + n.toNatClampNeg ≤ n0) (h5 : dp.toNatClampNeg + n.toNatClampNeg ≤ n1)
    (hz : j_cn G z2 = va_cpy (j_cn G z0) (j_cn G z1) sp.toNatClampNeg dp.toNatClampNeg n.toNatClampNeg)
    (hvals : ∀ (T : State) (vm' : Vm) (comp : ClassId) (kA : Class), T.heap = H → (js x).vm.Alike vm' → (js x).vm.classes[G.2.1 k]? = some kA → kA.kind = .array comp ty → ∀ q, q < n.toNatClampNeg → fits ty (j_cn G z0 (sp.toNatClampNeg + q)) = true ∧ (T.setVm vm').takes comp (j_cn G z0 (sp.toNatClampNeg + q)))
    (hB : j_B G locs) (hsc : (rest.map fun v => v.category).sum ≤ 8) (hd : decode i.2.1 pc = .ok (.invokestatic ix, 3))
    (kk : ∀ (H' : Heap) (locs' : List Loc), j_R G (j_set mem b (.inl (k, n1, z2))) H' → j_B G locs' → j_W x H' locs' cells slots Q (F0 (jm x) (pc + 3) ls rest)) :
    j_W x H locs cells slots Q (F0 (jm x) pc ls (.int n :: .int dp :: .ref (adr G b) :: .int sp :: .ref (adr G a) :: rest)) := by
  obtain ⟨hx, hb, hml, hown, hts, hK, hrm, -⟩ := hcx
  obtain ⟨w1, w2, w3, w4⟩ := hw
  obtain ⟨hl0, hc0⟩ := hR.ar4 hm0 h4a
  obtain ⟨hl1, hc1⟩ := hR.ar4 hm1 h4b
  obtain ⟨-, k0, hk0, cm0, hkk0⟩ := (hK.2.1 k _ ht).1 n0 (j_cn G z0)
  obtain ⟨-, k1, hk1, cm1, hkk1⟩ := (hK.2.1 k _ ht).1 n1 (j_cn G z1)
  have hfw : nativeFrameWords "java/lang/System" "arraycopy" 5 ≤ 40 := by decide
  intro T hT X
  obtain ⟨vm', X', step⟩ := X.arraycopy hx hown (hts _ w1) (hts _ w2) (hts _ w3) (hts _ w4) (src := adr G a) (dst := adr G b) (cs := arrV (G.2.1 k) n0 (j_cn G z0)) (cd := arrV (G.2.1 k) n1 (j_cn G z1)) (srcPos := sp) (destPos := dp) (n := n) (by rw [hT]; exact hc0) (by rw [hT]; exact hc1)
    (fun _ h => by cases h) (fun _ h => by cases h) (fun h => by cases h) (fun h => by cases h) hk0 hk1 hkk0 hkk1 (by simp) h1 h2 h3
    (by rw [j_nn sp h1, j_nn n h3, arrV_size]; omega) (by rw [j_nn dp h2, j_nn n h3, arrV_size]; omega)
    (fun vm₁ hal q hq => by
      have e : (arrV (G.2.1 k) n0 (j_cn G z0)).slots.getD (sp.toNatClampNeg + q) .null = j_cn G z0 (sp.toNatClampNeg + q) := by
        rw [Array.getD_eq_getD_getElem?, arrV_read _ _ (by omega)]
        rfl
      rw [e]
      exact hvals T vm₁ cm1 k1 hT hal hk1 hkk1 q hq)
    (g := F0 (jm x) pc ls (.int n :: .int dp :: .ref (adr G b) :: .int sp :: .ref (adr G a) :: rest)) rfl (by rw [hml]; exact hls) (rest := rest) rfl (by rw [hb]; exact hd) hrm.1 (by show 2 * 0 + _ + _ ≤ _; omega)
  have e1 : copied (arrV (G.2.1 k) n0 (j_cn G z0)) (arrV (G.2.1 k) n1 (j_cn G z1)) sp dp n = arrV (G.2.1 k) n1 (j_cn G z2) := by
    rw [hz]
    exact va_copied (fun v => v) (G.2.1 k) (G.2.1 k) (j_cn G z0) (j_cn G z1) h4
  rw [e1] at X' step
  have hlt : adr G b < H.size := (Array.getElem?_eq_some_iff.mp hc1).1
  have hheap : ((T.setVm vm').setCell (adr G b) (arrV (G.2.1 k) n1 (j_cn G z2))).heap = H.setIfInBounds (adr G b) (arrV (G.2.1 k) n1 (j_cn G z2)) := by rw [← hT]; rfl
  have oq : ∀ q : Nat, q ≠ adr G b → (H.setIfInBounds (adr G b) (arrV (G.2.1 k) n1 (j_cn G z2)))[q]? = H[q]? := fun q hq => by simp [Array.getElem?_setIfInBounds, Ne.symm hq]
  have hat' : va_at G.1 cls (adr G b, rnc G (.inl (k, n1, z2))) (H.setIfInBounds (adr G b) (arrV (G.2.1 k) n1 (j_cn G z2))) := by
    show (H.setIfInBounds (adr G b) _)[adr G b]? = some (vp_cell (G.2.1 k) (rnq G (n1, z2)))
    rw [j_cell]
    simp [Array.getElem?_setIfInBounds, hlt]
  obtain ⟨t, a1, b1⟩ := kk _ _ (hR.set h4b hl1 (by simp) oq hat') (fun q hq => by
      rcases List.mem_append.mp hq with h | h
      · exact hB q h
      · obtain ⟨z, -, hz⟩ := List.mem_map.mp h
        rw [← hz]
        show _ ≤ adr G b
        rw [adr_new h4b]
        omega) _ hheap X'
  exact ⟨t, step t a1, b1⟩
def j_cpk (sp dp n : Int32) (n0 n1 a b : Nat) (r : List Value) : Bool := !(decide (sp < 0)) && !(decide (dp < 0)) && !(decide (n < 0)) && Nat.ble (sp.toNatClampNeg + n.toNatClampNeg) n0 && Nat.ble (dp.toNatClampNeg + n.toNatClampNeg) n1 && Nat.ble 4 a && Nat.ble 4 b && Nat.ble (j_sc r) 8
def j_cpl (n : Nat) : j_S := fun lc st mem => match st with
  | .int c :: .int dp :: .ref b :: .int sp :: .ref a :: r => match mem.2.2 a, mem.2.2 b with
    | some (.inl (k0, n0, .inr (.inl f))), some (.inl (k1, n1, .inr (.inl g))) => bif (k0 == 1) && (k1 == 1) && j_cpk sp dp c n0 n1 a b r then some (.inl (n, lc, r, j_set mem b (.inl (1, n1, .inr (.inl (va_cpy f g sp.toNatClampNeg dp.toNatClampNeg c.toNatClampNeg)))))) else none
    | _, _ => none
  | _ => none
def j_cpi (n : Nat) : j_S := fun lc st mem => match st with
  | .int c :: .int dp :: .ref b :: .int sp :: .ref a :: r => match mem.2.2 a, mem.2.2 b with
    | some (.inl (k0, n0, .inl f)), some (.inl (k1, n1, .inl g)) => bif (k0 == 0) && (k1 == 0) && j_cpk sp dp c n0 n1 a b r then some (.inl (n, lc, r, j_set mem b (.inl (0, n1, .inl (va_cpy f g sp.toNatClampNeg dp.toNatClampNeg c.toNatClampNeg))))) else none
    | _, _ => none
  | _ => none
theorem j_cpk_of {sp dp n : Int32} {n0 n1 a b : Nat} {r : List Value} (h : j_cpk sp dp n n0 n1 a b r = true) : (¬ sp < 0) ∧ (¬ dp < 0) ∧ (¬ n < 0) ∧ sp.toNatClampNeg + n.toNatClampNeg ≤ n0 ∧ dp.toNatClampNeg + n.toNatClampNeg ≤ n1 ∧ 4 ≤ a ∧ 4 ≤ b ∧ j_sc r ≤ 8 := by
  simp only [j_cpk, Bool.and_eq_true, Bool.not_eq_true', decide_eq_false_iff_not, Nat.ble_eq] at h
  obtain ⟨⟨⟨⟨⟨⟨⟨h1, h2⟩, h3⟩, h4⟩, h5⟩, h6⟩, h7⟩, h8⟩ := h
  exact ⟨h1, h2, h3, h4, h5, h6, h7, h8⟩
theorem r_copyl {ix : Nat} (hw : j_cpw i ix) (hd : decode i.2.1 pc = .ok (.invokestatic ix, 3)) : j_ok G tm i pc (j_cpl (pc + 3)) := by
  intro lc st mem act ha
  unfold j_cpl at ha
  split at ha
  next c dp b sp a r =>
    split at ha
    next k0 n0 f k1 n1 g hm0 hm1 =>
      cases hcs : (k0 == 1) && (k1 == 1) && j_cpk sp dp c n0 n1 a b r with
      | false => rw [hcs] at ha; cases ha
      | true =>
        simp only [hcs, cond_true, Option.some.injEq] at ha
        subst ha
        simp only [Bool.and_eq_true, beq_iff_eq] at hcs
        obtain ⟨⟨rfl, rfl⟩, hk⟩ := hcs
        obtain ⟨g1, g2, g3, g4, g5, g6, g7, g8⟩ := j_cpk_of hk
        refine ⟨Nat.le_refl _, Nat.le_refl _, fun x H locs cells slots Q ls hc hR hH hB h1 h2 kk => ?_⟩
        refine j_copy (z2 := .inr (.inl (va_cpy f g sp.toNatClampNeg dp.toNatClampNeg c.toNatClampNeg))) hc hR hH.1 hm0 hm1 g6 g7 (ty := .long) rfl hw g1 g2 g3 g4 g5 ?_ (fun T vm' comp kA _ _ _ _ q hq => ⟨rfl, trivial⟩) hB (by rw [j_sc_rn]; exact g8) hd fun H' locs' hR' hB' => ?_
        · funext q
          show Value.long (va_cpy f g _ _ _ q) = va_cpy (fun j => Value.long (f j)) (fun j => Value.long (g j)) _ _ _ q
          unfold va_cpy
          split <;> rfl
        · have k1 := kk H' locs' ls hR' hH hB'
          simp only [j_set, Nat.sub_self, Nat.add_zero] at k1
          exact k1
    next => cases ha
  next => cases ha
theorem r_copyi {ix : Nat} (hw : j_cpw i ix) (hd : decode i.2.1 pc = .ok (.invokestatic ix, 3)) : j_ok G tm i pc (j_cpi (pc + 3)) := by
  intro lc st mem act ha
  unfold j_cpi at ha
  split at ha
  next c dp b sp a r =>
    split at ha
    next k0 n0 f k1 n1 g hm0 hm1 =>
      cases hcs : (k0 == 0) && (k1 == 0) && j_cpk sp dp c n0 n1 a b r with
      | false => rw [hcs] at ha; cases ha
      | true =>
        simp only [hcs, cond_true, Option.some.injEq] at ha
        subst ha
        simp only [Bool.and_eq_true, beq_iff_eq] at hcs
        obtain ⟨⟨rfl, rfl⟩, hk⟩ := hcs
        obtain ⟨g1, g2, g3, g4, g5, g6, g7, g8⟩ := j_cpk_of hk
        refine ⟨Nat.le_refl _, Nat.le_refl _, fun x H locs cells slots Q ls hc hR hH hB h1 h2 kk => ?_⟩
        refine j_copy (z2 := .inl (va_cpy f g sp.toNatClampNeg dp.toNatClampNeg c.toNatClampNeg)) hc hR hH.1 hm0 hm1 g6 g7 (ty := .int) rfl hw g1 g2 g3 g4 g5 ?_ (fun T vm' comp kA _ _ _ _ q hq => ⟨rfl, trivial⟩) hB (by rw [j_sc_rn]; exact g8) hd fun H' locs' hR' hB' => ?_
        · funext q
          show Value.int (va_cpy f g _ _ _ q) = va_cpy (fun j => Value.int (f j)) (fun j => Value.int (g j)) _ _ _ q
          unfold va_cpy
          split <;> rfl
        · have k1 := kk H' locs' ls hR' hH hB'
          simp only [j_set, Nat.sub_self, Nat.add_zero] at k1
          exact k1
    next => cases ha
  next => cases ha
end COPY
