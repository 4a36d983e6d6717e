/-! ARRAYS OF REFERENCES, OF BYTES AND BOOLEANS; CONSTRUCTORS OF NEST MATES (own text) -/
section KINDS
variable {G : j_G} {tm : Nat → MethodName × Cond} {i : j_I} {pc : Nat}
/-- what stands nowhere in the code that is reached -/
def j_no : j_S := fun _ _ _ => none
theorem r_no : j_ok G tm i pc j_no := fun _ _ _ _ h => by cases h
def j_alb (n : Nat) : j_S := fun lc st mem => match st with
  | .int a :: .ref b :: r => match mem.2.2 b with
    | some (.inl (k, len, .inl f)) => bif ((k == 2) || (k == 8)) && j_in a len then some (.inl (n, lc, .int (f a.toNatClampNeg) :: r, mem)) else none
    | _ => none
  | _ => none
theorem r_baload2 (hd : decode i.2.1 pc = .ok (.baload, 1)) : j_ok G tm i pc (j_alb (pc + 1)) := by
  intro lc st mem act ha
  unfold j_alb at ha
  split at ha
  next a b r =>
    split at ha
    next k len f hm =>
      cases hcs : ((k == 2) || (k == 8)) && j_in a len with
      | false => rw [hcs] at ha; cases ha
      | true =>
        rw [hcs] at ha
        cases ha
        simp only [Bool.and_eq_true, Bool.or_eq_true, beq_iff_eq] at hcs
        obtain ⟨hk, hin⟩ := hcs
        refine ⟨Nat.le_refl _, Nat.le_refl _, fun x H locs cells slots Q ls hc hR hH hB h1 h2 kk => ?_⟩
        have k1 := kk H locs ls hR hH hB
        simp only [Nat.sub_self, Nat.add_zero] at k1
        rcases hk with rfl | rfl
        · obtain ⟨cell, q1, q2, q3, q4, q5⟩ := hR.arr hc.2.2.2.2.2.1 hm (ty := .byte) rfl
          exact W.bald (v := .int (f a.toNatClampNeg)) hc.1 hc.2.1 q1 q2 q3 (j_in_sz hin q4.1) (by rw [q5 _ (j_in_lt hin)]; rfl) rfl rfl hd k1
        · obtain ⟨cell, q1, q2, q3, q4, q5⟩ := hR.arr hc.2.2.2.2.2.1 hm (ty := .boolean) rfl
          exact W.zald (v := .int (f a.toNatClampNeg)) hc.1 hc.2.1 q1 q2 q3 (j_in_sz hin q4.1) (by rw [q5 _ (j_in_lt hin)]; rfl) rfl rfl hd k1
    next => cases ha
  next => cases ha
def j_nb (k : Nat) (y : Int32) : Int32 := bif k == 2 then vp_nar .byte y else vp_nar .boolean y
def j_abz (n : Nat) : j_S := fun lc st mem => match st with
  | .int y :: .int a :: .ref b :: r => match mem.2.2 b with
    | some (.inl (k, len, .inl f)) => bif ((k == 2) || (k == 8)) && j_in a len && Nat.ble 4 b then some (.inl (n, lc, r, j_set mem b (.inl (k, len, .inl (upd f a.toNatClampNeg (j_nb k y)))))) else none
    | _ => none
  | _ => none
theorem r_bastore2 (hd : decode i.2.1 pc = .ok (.bastore, 1)) : j_ok G tm i pc (j_abz (pc + 1)) := by
  intro lc st mem act ha
  unfold j_abz at ha
  split at ha
  next y a b r =>
    split at ha
    next k len f hm =>
      cases hcs : ((k == 2) || (k == 8)) && j_in a len && Nat.ble 4 b with
      | false => rw [hcs] at ha; cases ha
      | true =>
        rw [hcs] at ha
        cases ha
        simp only [Bool.and_eq_true, Bool.or_eq_true, beq_iff_eq, Nat.ble_eq] at hcs
        obtain ⟨⟨hk, hin⟩, h4⟩ := hcs
        refine ⟨Nat.le_refl _, Nat.le_refl _, fun x H locs cells slots Q ls hc hR hH hB h1 h2 kk => ?_⟩
        obtain ⟨hl, hcell⟩ := hR.ar4 hm h4
        have fin' : ∀ (H' : Heap), H'[adr G b]? = some ((arrV (G.2.1 k) len (j_cn G (.inl f))).setSlot a.toNatClampNeg (.int (j_nb k y))) → H'.size = H.size → (∀ q, q ≠ adr G b → H'[q]? = H[q]?) → j_W x H' (locs ++ [⟨adr G b, a.toNatClampNeg⟩]) cells slots Q (F0 (jm x) (pc + 1) ls (r.map (rn G))) := by
          intro H' z1 z2 z3
          have hat' : va_at G.1 cls (adr G b, rnc G (.inl (k, len, .inl (upd f a.toNatClampNeg (j_nb k y))))) H' := by
            show H'[adr G b]? = some (vp_cell (G.2.1 k) (rnq G (len, .inl (upd f a.toNatClampNeg (j_nb k y)))))
            rw [j_cell, z1, arrV_store]
            congr 2
            funext q
            by_cases hq : q = a.toNatClampNeg
            · subst hq; simp [updV, upd, j_cn]
            · simp [updV, upd, j_cn, hq]
          have k1 := kk H' (locs ++ [⟨adr G b, a.toNatClampNeg⟩]) ls (hR.set h4 hl z2 z3 hat') hH (fun q hq => by
            rcases List.mem_append.mp hq with hq | hq
            · exact hB q hq
            · rw [List.mem_singleton.mp hq]
              show _ ≤ adr G b
              rw [adr_new h4]
              omega)
          simp only [j_set, Nat.sub_self, Nat.add_zero] at k1
          exact k1
        rcases hk with rfl | rfl
        · exact W.bast hc.1 hc.2.1 hcell ((hc.2.2.2.2.2.1.2.1 2 _ rfl).1 len _) (fun q => by cases q) (by rw [arrV_size]; exact j_in_vp hin) rfl rfl hd fin'
        · exact W.zast hc.1 hc.2.1 hcell ((hc.2.2.2.2.2.1.2.1 8 _ rfl).1 len _) (fun q => by cases q) (by rw [arrV_size]; exact j_in_vp hin) rfl rfl hd fin'
    next => cases ha
  next => cases ha
/-- reading a reference -/
def j_alq (n : Nat) : j_S := fun lc st mem => match st with
  | .int a :: .ref b :: r => match mem.2.2 b with
    | some (.inl (k, len, .inr (.inr (.inr (.inr f))))) => bif Nat.ble 3 k && Nat.ble k 7 && j_in a len then some (.inl (n, lc, va_rf (f a.toNatClampNeg) :: r, mem)) else none
    | _ => none
  | _ => none
theorem j_refty {k : Nat} (h3 : 3 ≤ k) (h7 : k ≤ 7) : ∃ ty, aty[k]? = some ty ∧ ty.isReference = true := by
  have : k = 3 ∨ k = 4 ∨ k = 5 ∨ k = 6 ∨ k = 7 := by omega
  rcases this with rfl | rfl | rfl | rfl | rfl <;> exact ⟨_, rfl, rfl⟩
theorem r_aaload2 (hd : decode i.2.1 pc = .ok (.aaload, 1)) : j_ok G tm i pc (j_alq (pc + 1)) := by
  intro lc st mem act ha
  unfold j_alq at ha
  split at ha
  next a b r =>
    split at ha
    next k len f hm =>
      cases hcs : Nat.ble 3 k && Nat.ble k 7 && j_in a len with
      | false => rw [hcs] at ha; cases ha
      | true =>
        rw [hcs] at ha
        cases ha
        simp only [Bool.and_eq_true, Nat.ble_eq] at hcs
        obtain ⟨⟨hk3, hk7⟩, hin⟩ := hcs
        obtain ⟨ty, ht, href⟩ := j_refty hk3 hk7
        refine ⟨Nat.le_refl _, Nat.le_refl _, fun x H locs cells slots Q ls hc hR hH hB h1 h2 kk => ?_⟩
        have k1 := kk H locs ls hR hH hB
        simp only [Nat.sub_self, Nat.add_zero] at k1
        obtain ⟨cell, q1, q2, q3, q4, q5⟩ := hR.arr hc.2.2.2.2.2.1 hm ht
        rw [List.map_cons, rn_rf] at k1
        exact W.aald hc.1 hc.2.1 q1 q2 href q3 (j_in_sz hin q4.1) (by rw [q5 _ (j_in_lt hin)]; rfl) rfl rfl hd k1
    next => cases ha
  next => cases ha
/-- which class an array of references is over -/
def j_el (t : Nat) : String := match t with
  | 3 => "LevelTables$Version"
  | 4 => "LevelTables$Run"
  | 5 => "LevelTables$Level"
  | _ => "java/lang/Object"
theorem j_asg {U : State} {A : Array Value} (hts : ∀ w ∈ lwg, w.before A U = true) (hK : j_K G U) {t k : Nat} {fs : List Value} (h : j_fit t (some (.inr (k, fs))) = true) : ∃ (C : String) (T : u_T) (N : Nat) (kA kC kE : Class) (comp : ClassId) (ty : FieldType), cls[k]? = some (C, T, N) ∧ U.vm.classes[G.2.1 t]? = some kA ∧ kA.kind = .array comp ty ∧ ty.isReference = true ∧ aty[t]? = some ty ∧ U.vm.classes[G.1.1 k]? = some kC ∧ U.vm.classes[comp]? = some kE ∧ U.vm.assignable (G.1.1 k) comp = true := by
  have go : ∀ (C : String) (T : u_T) (N : Nat) (E : String), cls[k]? = some (C, T, N) → aty[t]? = some (.object E) → (∀ a b : ClassId, U.vm.findClass C = some a → U.vm.findClass E = some b → U.vm.assignable a b = true) → ∃ (C : String) (T : u_T) (N : Nat) (kA kC kE : Class) (comp : ClassId) (ty : FieldType), cls[k]? = some (C, T, N) ∧ U.vm.classes[G.2.1 t]? = some kA ∧ kA.kind = .array comp ty ∧ ty.isReference = true ∧ aty[t]? = some ty ∧ U.vm.classes[G.1.1 k]? = some kC ∧ U.vm.classes[comp]? = some kE ∧ U.vm.assignable (G.1.1 k) comp = true := by
    intro C T N E h1 h2 h3
    obtain ⟨kA, comp, r1, r2, r3, -⟩ := (hK.2.1 t _ h2).2
    obtain ⟨hfc, kC, hkC, -⟩ := (hK.1 k _ h1).2
    obtain ⟨kE, hkE, -⟩ := Vm.findClass_spec r3
    exact ⟨C, T, N, kA, kC, kE, comp, _, h1, r1, r2, rfl, h2, hkC, hkE, h3 _ _ hfc r3⟩
  have same : ∀ (C : String) (a b : ClassId), U.vm.findClass C = some a → U.vm.findClass C = some b → U.vm.assignable a b = true := by
    intro C a b h1 h2
    cases h1.symm.trans h2
    exact va_asg _ _
  have word : ∀ (C E : String), Cond.castable C E ∈ lwn → ∀ a b : ClassId, U.vm.findClass C = some a → U.vm.findClass E = some b → U.vm.assignable a b = true := by
    intro C E hw a b h1 h2
    obtain ⟨c0, t0, f1, f2, f3⟩ := Cond.castable_spec (hK.use (A := A) hw)
    cases h1.symm.trans f1
    cases h2.symm.trans f2
    exact f3
  simp only [j_fit, Bool.or_eq_true, Bool.and_eq_true, beq_iff_eq] at h
  rcases h with (((⟨rfl, rfl⟩ | ⟨rfl, rfl⟩) | ⟨rfl, rfl⟩) | ⟨rfl, rfl⟩) | ⟨rfl, rfl⟩
  · exact go _ _ _ _ rfl rfl (same _)
  · exact go _ _ _ _ rfl rfl (word _ _ k_c4)
  · exact go _ _ _ _ rfl rfl (word _ _ k_c5)
  · exact go _ _ _ _ rfl rfl (same _)
  · exact go _ _ _ _ rfl rfl (word _ _ k_c9)
theorem r_aastore2 (hd : decode i.2.1 pc = .ok (.aastore, 1)) : j_ok G tm i pc (j_aq (pc + 1)) := by
  intro lc st mem act ha
  have fin' : ∀ (x : j_X) (H : Heap) (locs : List Loc) (cells slots : Nat) (Q : State → Prop) (ls : Array Slot) (r : List Value) (b k len : Nat) (a : Int32) (f : Nat → Option Nat) (w : Option Nat), j_R G mem H → j_B G locs → 4 ≤ b → b < mem.1 →
      (∀ (H' : Heap) (locs' : List Loc), j_R G (j_set mem b (.inl (k, len, .inr (.inr (.inr (.inr (va_up f a.toNatClampNeg w))))))) H' → j_B G locs' → j_W x H' locs' cells slots Q (F0 (jm x) (pc + 1) ls (r.map (rn G)))) →
      ∀ (H' : Heap), H'[adr G b]? = some ((arrV (G.2.1 k) len (j_cn G (.inr (.inr (.inr (.inr f)))))).setSlot a.toNatClampNeg (va_rf (w.map (adr G)))) → H'.size = H.size → (∀ q, q ≠ adr G b → H'[q]? = H[q]?) → j_W x H' (locs ++ [⟨adr G b, a.toNatClampNeg⟩]) cells slots Q (F0 (jm x) (pc + 1) ls (r.map (rn G))) := by
    intro x H locs cells slots Q ls r b k len a f w hR hB h4 hl kk H' z1 z2 z3
    have hat' : va_at G.1 cls (adr G b, rnc G (.inl (k, len, .inr (.inr (.inr (.inr (va_up f a.toNatClampNeg w))))))) H' := by
      show H'[adr G b]? = some (vp_cell (G.2.1 k) (rnq G (len, .inr (.inr (.inr (.inr (va_up f a.toNatClampNeg w)))))))
      rw [j_cell, z1, arrV_store]
      congr 2
      funext q
      by_cases hq : q = a.toNatClampNeg
      · subst hq; simp [updV, va_up, j_cn]
      · simp [updV, va_up, j_cn, hq]
    exact kk H' _ (hR.set h4 hl z2 z3 hat') (fun q hq => by
      rcases List.mem_append.mp hq with hq | hq
      · exact hB q hq
      · rw [List.mem_singleton.mp hq]
        show _ ≤ adr G b
        rw [adr_new h4]
        omega)
  unfold j_aq at ha
  split at ha
  next v a b r =>
    split at ha
    next k len f hm =>
      cases hcs : j_fit k (mem.2.2 v) && j_in a len && Nat.ble 4 b && Nat.ble 4 v with
      | false => rw [hcs] at ha; cases ha
      | true =>
        rw [hcs] at ha
        cases ha
        simp only [Bool.and_eq_true, Nat.ble_eq] at hcs
        obtain ⟨⟨⟨hfit, hin⟩, h4⟩, hv4⟩ := hcs
        refine ⟨Nat.le_refl _, Nat.le_refl _, fun x H locs cells slots Q ls hc hR hH hB h1 h2 kk => ?_⟩
        obtain ⟨hl, hcell⟩ := hR.ar4 hm h4
        have hkk : ∀ (H' : Heap) (locs' : List Loc), j_R G (j_set mem b (.inl (k, len, .inr (.inr (.inr (.inr (va_up f a.toNatClampNeg (some v)))))))) H' → j_B G locs' → j_W x H' locs' cells slots Q (F0 (jm x) (pc + 1) ls (r.map (rn G))) := by
          intro H' locs' hR' hB'
          have k1 := kk H' locs' ls hR' hH hB'
          simp only [j_set, Nat.sub_self, Nat.add_zero] at k1
          exact k1
        have hlt := j_in_lt hin
        have h0 : ¬ a < 0 := fun q => j_in_vp hin (Or.inl q)
        have hf := fin' x H locs cells slots Q ls r b k len a f (some v) hR hB h4 hl hkk
        cases hmv : mem.2.2 v with
        | none => rw [hmv] at hfit; cases hfit
        | some cv =>
          rw [hmv] at hfit
          cases cv with
          | inr o =>
            obtain ⟨c, fs⟩ := o
            obtain ⟨C, T, N, kA, kC, kE, comp, ty, e1, e2, e3, e4, e5, e6, e7, e8⟩ := j_asg hc.2.2.2.2.1 hc.2.2.2.2.2.1 hfit
            obtain ⟨-, -, r0, g1, cellV, q1, q2, q3, -⟩ := hR.obj hmv
            exact W.aast hc.1 hc.2.1 hcell (fun q h => by cases h) (fun h => by cases h) e2 e3 e4 e7 ⟨h0, by rw [arrV_size]; exact hlt⟩ q1 (fun q h => by rw [q3] at h; cases h) (by rw [q2]; exact e6) (by rw [q2]; exact e8) rfl rfl hd hf
          | inl o =>
            obtain ⟨c, len2, z⟩ := o
            simp only [j_fit, Bool.and_eq_true, beq_iff_eq] at hfit
            obtain ⟨rfl, rfl⟩ := hfit
            obtain ⟨kA, comp, e2, e3, e4⟩ := hc.2.2.2.2.2.1.2.2.2.2.2.2.2.2.2.1
            obtain ⟨-, hcv⟩ := hR.ar4 hmv hv4
            have e5 : (js x).vm.findClass "[J" = some (G.2.1 1) := (hc.2.2.2.2.2.1.2.1 1 .long rfl).2
            cases e4.symm.trans e5
            obtain ⟨kE, hkE, -⟩ := Vm.findClass_spec e4
            exact W.aast hc.1 hc.2.1 hcell (fun q h => by cases h) (fun h => by cases h) e2 e3 rfl hkE ⟨h0, by rw [arrV_size]; exact hlt⟩ hcv (fun q h => by cases h) hkE (va_asg _ _) rfl rfl hd hf
    next => cases ha
  next a b r =>
    split at ha
    next k len f hm =>
      cases hcs : (k == 6) && j_in a len && Nat.ble 4 b with
      | false => rw [hcs] at ha; cases ha
      | true =>
        rw [hcs] at ha
        cases ha
        simp only [Bool.and_eq_true, beq_iff_eq, Nat.ble_eq] at hcs
        obtain ⟨⟨rfl, hin⟩, h4⟩ := hcs
        refine ⟨Nat.le_refl _, Nat.le_refl _, fun x H locs cells slots Q ls hc hR hH hB h1 h2 kk => ?_⟩
        obtain ⟨hl, hcell⟩ := hR.ar4 hm h4
        have hkk : ∀ (H' : Heap) (locs' : List Loc), j_R G (j_set mem b (.inl (6, len, .inr (.inr (.inr (.inr (va_up f a.toNatClampNeg none))))))) H' → j_B G locs' → j_W x H' locs' cells slots Q (F0 (jm x) (pc + 1) ls (r.map (rn G))) := by
          intro H' locs' hR' hB'
          have k1 := kk H' locs' ls hR' hH hB'
          simp only [j_set, Nat.sub_self, Nat.add_zero] at k1
          exact k1
        have hf := fin' x H locs cells slots Q ls r b 6 len a f none hR hB h4 hl hkk
        exact va_WaastN (C := "java/lang/Object") hc.1 hc.2.1 hcell ((hc.2.2.2.2.2.1.2.1 6 _ rfl).1 len _) (fun q => by cases q) (by rw [arrV_size]; exact j_in_vp hin) rfl rfl hd hf
    next => cases ha
  next => cases ha
/-- a new array of references -/
theorem r_anewarray {t ix : Nat} {C : String} (ht : aty[t]? = some (.object C)) (hz : j_ze t = .inr (.inr (.inr (.inr (fun _ => none))))) (hl : Cond.classLink i.1 ix C ∈ lwg) (ho : Cond.arrayOver (.object C) ∈ lwn) (hd : decode i.2.1 pc = .ok (.anewarray ix, 3)) : j_ok G tm i pc (j_na t (pc + 3)) := by
  intro lc st mem act ha
  unfold j_na at ha
  split at ha
  next a r =>
    cases hcs : !(decide (a < 0)) && Nat.ble a.toNatClampNeg 60000000 with
    | false => rw [hcs] at ha; cases ha
    | true =>
      rw [hcs] at ha
      cases ha
      simp only [Bool.and_eq_true, Bool.not_eq_true', decide_eq_false_iff_not, Nat.ble_eq] at hcs
      refine ⟨Nat.le_succ _, Nat.le_add_right _ _, fun x H locs cells slots Q ls hx hR hH hB h1 h2 kk => ?_⟩
      generalize hmm : j_new mem a.toNatClampNeg (some (.inl (t, a.toNatClampNeg, j_ze t))) = mm at h1 h2 kk
      have e1 : mm.1 - mem.1 = 1 := by rw [← hmm]; show mem.1 + 1 - mem.1 = 1; omega
      have e2 : mm.2.1 - mem.2.1 = a.toNatClampNeg := by rw [← hmm]; show mem.2.1 + a.toNatClampNeg - mem.2.1 = _; omega
      rw [e1] at h1 kk
      rw [e2] at h2 kk
      obtain ⟨hex, hb, hml, hown, hts, hK, -⟩ := hx
      refine W.anew hex hb hown (hts _ hl) (hK.use ho) rfl hd rfl hcs.1 (by omega) h1 h2 fun cA kA comp f1 f2 f3 f4 => ?_
      have hcA : G.2.1 t = cA := by
        obtain ⟨-, -, -, -, -, g4⟩ := (hK.2.1 t _ ht).2
        exact Option.some.inj (g4.symm.trans f1)
      have hat : ∀ c0, some (Sum.inl (t, a.toNatClampNeg, j_ze t) : j_C) = some c0 → va_at G.1 cls (adr G mem.1, rnc G c0) (H.push ({ cls := cA, slots := Array.replicate a.toNatClampNeg .null, vm := .none } : Cell)) := by
        intro c0 h0
        cases h0
        show (H.push _)[adr G mem.1]? = some (vp_cell (G.2.1 t) (rnq G (a.toNatClampNeg, j_ze t)))
        rw [j_cell, hR.top, hcA, Array.getElem?_push_size, arrV_new, hz]
        rfl
      have k1 := kk _ locs ls (by rw [← hmm]; exact hR.push (by rw [Array.size_push]) (fun q hq => by rw [Array.getElem?_push, if_neg (Nat.ne_of_lt hq)]) hat) hH hB
      rw [List.map_cons, show rn G (.ref mem.1) = .ref (adr G mem.1) from rfl, hR.top] at k1
      exact k1
  next => cases ha
theorem r_anewarrayJ {ix : Nat} (hl : Cond.classLink i.1 ix "[J" ∈ lwg) (ho : Cond.arrayOver (.array .long) ∈ lwn) (hd : decode i.2.1 pc = .ok (.anewarray ix, 3)) : j_ok G tm i pc (j_na 7 (pc + 3)) := by
  intro lc st mem act ha
  unfold j_na at ha
  split at ha
  next a r =>
    cases hcs : !(decide (a < 0)) && Nat.ble a.toNatClampNeg 60000000 with
    | false => rw [hcs] at ha; cases ha
    | true =>
      rw [hcs] at ha
      cases ha
      simp only [Bool.and_eq_true, Bool.not_eq_true', decide_eq_false_iff_not, Nat.ble_eq] at hcs
      refine ⟨Nat.le_succ _, Nat.le_add_right _ _, fun x H locs cells slots Q ls hx hR hH hB h1 h2 kk => ?_⟩
      generalize hmm : j_new mem a.toNatClampNeg (some (.inl (7, a.toNatClampNeg, j_ze 7))) = mm at h1 h2 kk
      have e1 : mm.1 - mem.1 = 1 := by rw [← hmm]; show mem.1 + 1 - mem.1 = 1; omega
      have e2 : mm.2.1 - mem.2.1 = a.toNatClampNeg := by rw [← hmm]; show mem.2.1 + a.toNatClampNeg - mem.2.1 = _; omega
      rw [e1] at h1 kk
      rw [e2] at h2 kk
      obtain ⟨hex, hb, hml, hown, hts, hK, -⟩ := hx
      refine W.anewA (t := .long) hex hb hown (hts _ hl) (hK.use ho) rfl hd rfl hcs.1 (by omega) h1 h2 fun cA kA comp f1 f2 f3 f4 => ?_
      have hcA : G.2.1 7 = cA := Option.some.inj ((hK.2.1 7 _ rfl).2.symm.trans f1)
      have hat : ∀ c0, some (Sum.inl (7, a.toNatClampNeg, j_ze 7) : j_C) = some c0 → va_at G.1 cls (adr G mem.1, rnc G c0) (H.push ({ cls := cA, slots := Array.replicate a.toNatClampNeg .null, vm := .none } : Cell)) := by
        intro c0 h0
        cases h0
        show (H.push _)[adr G mem.1]? = some (vp_cell (G.2.1 7) (rnq G (a.toNatClampNeg, j_ze 7)))
        rw [j_cell, hR.top, hcA, Array.getElem?_push_size, arrV_new]
        rfl
      have k1 := kk _ locs ls (by rw [← hmm]; exact hR.push (by rw [Array.size_push]) (fun q hq => by rw [Array.getElem?_push, if_neg (Nat.ne_of_lt hq)]) hat) hH hB
      rw [List.map_cons, show rn G (.ref mem.1) = .ref (adr G mem.1) from rfl, hR.top] at k1
      exact k1
  next => cases ha
end KINDS
