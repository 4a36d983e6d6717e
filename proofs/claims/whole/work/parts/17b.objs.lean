/-! System.arraycopy of Object[]; getClass of Object[] (own text) -/
section OBJS
variable {G : j_G} {tm : Nat → MethodName × Cond} {i : j_I} {pc : Nat}
def j_allq (mem : j_M) (f : Nat → Option Nat) (sp n : Nat) : Bool := (List.range n).all fun q => match f (sp + q) with
  | none => true
  | some y => j_fit 6 (mem.2.2 y) && Nat.ble 4 y
def j_cpq (n : Nat) : j_S := fun lc st mem => match st with
  | .int c :: .int dp :: .ref b :: .int sp :: .ref a :: r => match mem.2.2 a, mem.2.2 b with
    | some (.inl (k0, n0, .inr (.inr (.inr (.inr f))))), some (.inl (k1, n1, .inr (.inr (.inr (.inr g))))) => bif (k0 == 6) && (k1 == 6) && j_cpk sp dp c n0 n1 a b r && j_allq mem f sp.toNatClampNeg c.toNatClampNeg then some (.inl (n, lc, r, j_set mem b (.inl (6, n1, .inr (.inr (.inr (.inr (va_cpy f g sp.toNatClampNeg dp.toNatClampNeg c.toNatClampNeg)))))))) else none
    | _, _ => none
  | _ => none
theorem r_copyq {ix : Nat} (hw : j_cpw i ix) (hd : decode i.2.1 pc = .ok (.invokestatic ix, 3)) : j_ok G tm i pc (j_cpq (pc + 3)) := by
  intro lc st mem act ha
  unfold j_cpq at ha
  split at ha
  next c dp b sp a r =>
    split at ha
    next k0 n0 f k1 n1 g hm0 hm1 =>
      cases hcs : (k0 == 6) && (k1 == 6) && j_cpk sp dp c n0 n1 a b r && j_allq mem f sp.toNatClampNeg c.toNatClampNeg with
      | false => rw [hcs] at ha; cases ha
      | true =>
        rw [hcs] at ha
        cases ha
        simp only [Bool.and_eq_true, beq_iff_eq] at hcs
        obtain ⟨⟨⟨rfl, rfl⟩, hk⟩, hall⟩ := hcs
        obtain ⟨g1, g2, g3, g4, g5, g6, g7, g8⟩ := j_cpk_of hk
        refine ⟨Nat.le_refl _, Nat.le_refl _, fun x H locs cells slots Q ls hc hR hH hB h1 h2 kk => ?_⟩
        refine j_copy (z2 := .inr (.inr (.inr (.inr (va_cpy f g sp.toNatClampNeg dp.toNatClampNeg c.toNatClampNeg))))) hc hR hH.1 hm0 hm1 g6 g7 (ty := .object "java/lang/Object") rfl hw g1 g2 g3 g4 g5 ?_ (fun T vm' comp kA hT hal hkA hkind q hq => ?_) hB (by rw [j_sc_rn]; exact g8) hd fun H' locs' hR' hB' => ?_
        · funext q
          show va_rf ((va_cpy f g _ _ _ q).map (adr G)) = va_cpy (fun j => va_rf ((f j).map (adr G))) (fun j => va_rf ((g j).map (adr G))) _ _ _ q
          unfold va_cpy
          split <;> rfl
        · show fits _ (va_rf ((f (sp.toNatClampNeg + q)).map (adr G))) = true ∧ (T.setVm vm').takes comp (va_rf ((f (sp.toNatClampNeg + q)).map (adr G)))
          have hq' := List.all_eq_true.mp hall q (List.mem_range.mpr hq)
          cases hf : f (sp.toNatClampNeg + q) with
          | none => exact ⟨rfl, trivial⟩
          | some y =>
            rw [hf] at hq'
            simp only [Bool.and_eq_true, Nat.ble_eq] at hq'
            obtain ⟨hfit, hy4⟩ := hq'
            cases hmy : mem.2.2 y with
            | none => rw [hmy] at hfit; cases hfit
            | some cy =>
              rw [hmy] at hfit
              cases cy with
              | inl o => simp [j_fit] at hfit
              | inr o =>
                obtain ⟨cc, fs⟩ := o
                obtain ⟨C, T0, N, kA', kC, kE, comp', ty, e1, e2, e3, e4, e5, e6, e7, e8⟩ := j_asg hc.2.2.2.2.1 hc.2.2.2.2.2.1 hfit
                obtain ⟨-, -, r0, gg1, cellV, q1, q2, q3, -⟩ := hR.obj hmy
                cases hkA.symm.trans e2
                cases hkind.symm.trans e3
                obtain ⟨kC', hkC', -⟩ := hal.2.2 _ _ e6
                obtain ⟨kE', hkE', -⟩ := hal.2.2 _ _ e7
                refine ⟨rfl, cellV, (show T.heap[adr G y]? = some cellV by rw [hT]; exact q1), (fun z h => by rw [q3] at h; cases h), ⟨kC', by show vm'.classes[cellV.cls]? = some kC'; rw [q2]; exact hkC'⟩, ⟨kE', hkE'⟩, ?_⟩
                show vm'.assignable _ _ = true
                rw [hal.assignable, q2]
                exact e8
        · have k1 := kk H' locs' ls hR' hH hB'
          simp only [j_set, Nat.sub_self, Nat.add_zero] at k1
          exact k1
    next => cases ha
  next => cases ha
def j_gc (n : Nat) : j_S := fun lc st mem => match st with
  | .ref a :: r => match mem.2.2 a with
    | some (.inl (k, _, _)) => bif (k == 6) && Nat.ble 4 a && Nat.ble (j_sc r) 8 then some (.inl (n, lc, .ref 3 :: r, mem)) else none
    | _ => none
  | _ => none
theorem r_getClass {ix : Nat} (hl : Cond.methodLink i.1 ix ⟨"java/lang/Object", "getClass", "()Ljava/lang/Class;"⟩ ∈ lwg) (hdc : Cond.declares ⟨"java/lang/Object", "getClass", "()Ljava/lang/Class;"⟩ ∈ lwn)
    (hsel : Cond.selects "[Ljava/lang/Object;" ⟨"java/lang/Object", "getClass", "()Ljava/lang/Class;"⟩ ⟨"java/lang/Object", "getClass", "()Ljava/lang/Class;"⟩ ∈ lwg) (hi : Cond.instanceMethod ⟨"java/lang/Object", "getClass", "()Ljava/lang/Class;"⟩ ∈ lwg) (hn : Cond.native ⟨"java/lang/Object", "getClass", "()Ljava/lang/Class;"⟩ ∈ lwg) (hd : decode i.2.1 pc = .ok (.invokevirtual ix, 3)) : j_ok G tm i pc (j_gc (pc + 3)) := by
  intro lc st mem act ha
  unfold j_gc at ha
  split at ha
  next a r =>
    split at ha
    next k len z hm =>
      cases hcs : (k == 6) && Nat.ble 4 a && Nat.ble (j_sc r) 8 with
      | false => rw [hcs] at ha; cases ha
      | true =>
        rw [hcs] at ha
        cases ha
        simp only [Bool.and_eq_true, beq_iff_eq, Nat.ble_eq] at hcs
        obtain ⟨⟨rfl, h4⟩, hsc⟩ := hcs
        refine ⟨Nat.le_refl _, Nat.le_refl _, fun x H locs cells slots Q ls hc hR hH hB h1 h2 kk => ?_⟩
        have k1 := kk H locs ls hR hH hB
        simp only [Nat.sub_self, Nat.add_zero] at k1
        obtain ⟨hx, hb, hml, hown, hts, hK, hrm, -⟩ := hc
        obtain ⟨hl4, hcell⟩ := hR.ar4 hm h4
        have e2 := va_nmO (hK.2.1 6 _ rfl).2 (nm := "[Ljava/lang/Object;") rfl
        exact va_getC (C := "[Ljava/lang/Object;") hx hb (by rw [hml]; exact hH.1.symm) hown (hts _ hl) (hK.use hdc) (hts _ hsel) (hts _ hi) (hts _ hn) hK.2.2.2.2.2.2.2.2.1 ⟨_, hcell, rfl, e2⟩ hrm.1 (by rw [j_sc_rn]; omega) hd k1
    next => cases ha
  next => cases ha
end OBJS
