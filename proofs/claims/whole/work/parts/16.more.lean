/-! MORE ROWS (own text) -/
section MORE
variable {G : j_G} {tm : Nat → MethodName × Cond} {i : j_I} {pc : Nat}
/-- Object.<init> -/
def j_oi (n : Nat) : j_S := fun lc st mem => match st with
  | .ref _ :: r => bif Nat.ble (j_sc r) 8 then some (.inl (n, lc, r, mem)) else none
  | _ => none
theorem r_objInit {ix : Nat} (hl : Cond.methodLink i.1 ix Lib.objectInit ∈ lwg) (hi : Cond.instanceMethod Lib.objectInit ∈ lwg) (hcd : Cond.code Lib.objectInit ⟨#[0xb1]⟩ 1 none ∈ lwg) (hd : decode i.2.1 pc = .ok (.invokespecial ix, 3)) : j_ok G tm i pc (j_oi (pc + 3)) := by
  intro lc st mem act ha
  unfold j_oi at ha
  split at ha
  next a r =>
    cases hcs : Nat.ble (j_sc r) 8 with
    | false => rw [hcs] at ha; cases ha
    | true =>
      simp only [hcs, cond_true, Option.some.injEq] at ha
      subst ha
      have hsc := Nat.le_of_ble_eq_true hcs
      refine ⟨Nat.le_refl _, Nat.le_refl _, fun x H locs cells slots Q ls hc hR hH hB h1 h2 kk => ?_⟩
      have k1 := kk H locs ls hR hH hB
      simp only [Nat.sub_self, Nat.add_zero] at k1
      obtain ⟨hx, hb, hml, hown, hts, hK, hrm, -⟩ := hc
      exact W.objInit hx hb hown (hts _ hl) (hts _ hi) (hts _ hcd) rfl (by rw [hml]; exact hH.1) rfl hd hrm.1 (by rw [j_sc_rn]; show 2 * 0 + _ + 12 ≤ _; omega) k1
  next => cases ha
/-- jumps by a number -/
def j_jp (f : List Value → Option (Nat × List Value)) : j_S := fun lc st mem => match f st with
  | some (t, r) => some (.inl (t, lc, r, mem))
  | none => none
def f_sw (lo : Int) (tb : List Nat) (df : Nat) (st : List Value) : Option (Nat × List Value) := match st with
  | .int x :: r => some (bif decide (x.toInt < lo) then df else (tb[(x.toInt - lo).toNat]?).getD df, r)
  | _ => none
theorem r_tableswitch {dflt lo hi : Int} {offs : Array Int} {len : Nat} {tb : List Nat} {df : Nat} (hd : decode i.2.1 pc = .ok (.tableswitch dflt lo hi offs, len)) (hdf : (pc : Int) + dflt = (df : Int)) (hlen : lo + (tb.length : Int) = hi + 1)
    (ho : offs.toList.map (fun o => (pc : Int) + o) = tb.map (fun t : Nat => (t : Int))) : j_ok G tm i pc (j_jp (f_sw lo tb df)) := by
  intro lc st mem act ha
  unfold j_jp f_sw at ha
  split at ha
  next t r h =>
    split at h
    next y r' =>
      cases ha
      simp only [Option.some.injEq, Prod.mk.injEq] at h
      obtain ⟨h, rfl⟩ := h
      refine ⟨Nat.le_refl _, Nat.le_refl _, fun x H locs cells slots Q ls hc hR hH hB h1 h2 kk => ?_⟩
      have k1 := kk H locs ls hR hH hB
      simp only [Nat.sub_self, Nat.add_zero] at k1
      by_cases hlo : y.toInt < lo
      · rw [decide_eq_true hlo] at h
        subst h
        exact lv_tableOut hc.1 hc.2.1 hd (Or.inl hlo) hdf k1
      · rw [decide_eq_false hlo] at h
        simp only [cond_false] at h
        cases hq : tb[(y.toInt - lo).toNat]? with
        | none =>
          rw [hq] at h
          have h : df = t := h
          subst h
          have hge : tb.length ≤ (y.toInt - lo).toNat := List.getElem?_eq_none_iff.mp hq
          exact lv_tableOut hc.1 hc.2.1 hd (Or.inr (by omega)) hdf k1
        | some t' =>
          rw [hq] at h
          have h : t' = t := h
          subst h
          have hlt : (y.toInt - lo).toNat < tb.length := (List.getElem?_eq_some_iff.mp hq).1
          have e1 : (tb.map (fun t : Nat => (t : Int)))[(y.toInt - lo).toNat]? = some (t' : Int) := by rw [List.getElem?_map, hq]; rfl
          rw [← ho, List.getElem?_map] at e1
          cases hof : offs.toList[(y.toInt - lo).toNat]? with
          | none => rw [hof] at e1; cases e1
          | some off =>
            rw [hof] at e1
            have e1 : (pc : Int) + off = (t' : Int) := Option.some.inj e1
            exact lv_tableIn hc.1 hc.2.1 hd hlo (by omega) (by rw [← Array.getElem?_toList]; exact hof) e1 k1
    next => cases h
  next => cases ha
/-- the two statics that are read -/
theorem r_getstatic {ix : Nat} {C n ds : String} {a : Nat} (hz : ∀ U, j_K G U → va_Z C n ds (.ref (adr G a)) (fun q => G.2.2.2.1.size ≤ q) U G.2.2.2.1) (hl : Cond.fieldLink i.1 ix C n ds ∈ lwg) (hd : decode i.2.1 pc = .ok (.getstatic ix, 3)) : j_ok G tm i pc (j_st (f_psh (.ref a)) (pc + 3)) := by
  intro lc st mem act ha
  cases ha
  refine ⟨Nat.le_refl _, Nat.le_refl _, fun x H locs cells slots Q ls hc hR hH hB h1 h2 kk => ?_⟩
  have k1 := kk H locs ls hR hH hB
  simp only [Nat.sub_self, Nat.add_zero] at k1
  obtain ⟨hx, hb, hml, hown, hts, hK, -⟩ := hc
  obtain ⟨cf, kf, fi, f, b, cell, g1, g2, g3, g4, g5, g6, g7, g8⟩ := hz _ hK
  exact W.gets hx hb hown (hts _ hl) g1 g2 g3 g4 (by rw [hR.2.2.1 b (Array.getElem?_eq_some_iff.mp g5).1]; exact g5) (fun e => by rw [e] at g6; cases g6) g7 rfl hd k1
theorem z_allowed (U : State) (hK : j_K G U) : va_Z "LevelTables" "ALLOWED" "[I" (.ref (adr G 1)) (fun q => G.2.2.2.1.size ≤ q) U G.2.2.2.1 := hK.2.2.2.2.2.2.1
theorem z_empty (U : State) (hK : j_K G U) : va_Z "java/util/ArrayList" "DEFAULTCAPACITY_EMPTY_ELEMENTDATA" "[Ljava/lang/Object;" (.ref (adr G 2)) (fun q => G.2.2.2.1.size ≤ q) U G.2.2.2.1 := hK.2.2.2.2.2.2.2.1
/-- a cast of an object to its own class, of an array to its own -/
def j_cc (os ars : List Nat) (n : Nat) : j_S := fun lc st mem => match st with
  | .null :: r => some (.inl (n, lc, .null :: r, mem))
  | .ref a :: r => bif (match mem.2.2 a with
      | some (.inr (c, _)) => os.contains c
      | some (.inl (c, _)) => ars.contains c && Nat.ble 4 a
      | none => false) then some (.inl (n, lc, .ref a :: r, mem)) else none
  | _ => none
theorem r_checkcast {os ars : List Nat} {ix : Nat} {nm : String} (hl : Cond.classLink i.1 ix nm ∈ lwg) (ho : ∀ c ∈ os, ∃ (T : u_T) (N : Nat), cls[c]? = some (nm, T, N)) (har : ∀ c ∈ ars, ∃ C, aty[c]? = some (.object C) ∧ "[" ++ (FieldType.object C).toString = nm) (hd : decode i.2.1 pc = .ok (.checkcast ix, 3)) : j_ok G tm i pc (j_cc os ars (pc + 3)) := by
  intro lc st mem act ha
  unfold j_cc at ha
  split at ha
  next r =>
    cases ha
    refine ⟨Nat.le_refl _, Nat.le_refl _, fun x H locs cells slots Q ls hc hR hH hB h1 h2 kk => ?_⟩
    have k1 := kk H locs ls hR hH hB
    simp only [Nat.sub_self, Nat.add_zero] at k1
    exact lv_castN hc.1 hc.2.1 hd k1
  next a r =>
    cases hcs : (match mem.2.2 a with
      | some (.inr (c, _)) => os.contains c
      | some (.inl (c, _)) => ars.contains c && Nat.ble 4 a
      | none => false) with
    | false => rw [hcs] at ha; cases ha
    | true =>
      rw [hcs] at ha
      cases ha
      refine ⟨Nat.le_refl _, Nat.le_refl _, fun x H locs cells slots Q ls hc hR hH hB h1 h2 kk => ?_⟩
      have k1 := kk H locs ls hR hH hB
      simp only [Nat.sub_self, Nat.add_zero] at k1
      obtain ⟨hx, hb, hml, hown, hts, hK, -⟩ := hc
      split at hcs
      next c fs hm =>
        obtain ⟨T, N, e1⟩ := ho c (List.contains_iff_mem.mp hcs)
        obtain ⟨-, -, r0, g1, cell, q1, q2, q3, -⟩ := hR.obj hm
        have hKn := hK.1 c _ e1
        exact va_castS hx hb hown (hts _ hl) hKn.2 ⟨cell, q1, by rw [q3]; rfl, by rw [q2]; exact hKn.2.1⟩ hd k1
      next c v hm =>
        obtain ⟨len, z⟩ := v
        simp only [Bool.and_eq_true, Nat.ble_eq] at hcs
        obtain ⟨C, e1, e2⟩ := har c (List.contains_iff_mem.mp hcs.1)
        obtain ⟨hl4, hcell⟩ := hR.ar4 hm hcs.2
        have hP : va_P G.1 cls [(adr G a, .inl (G.2.1 c, rnq G (len, z)))] H := fun k q h => by
          have hz : k < 1 := (List.getElem?_eq_some_iff.mp h).1
          rw [show k = 0 by omega] at h
          cases h
          show H[adr G a]? = some (vp_cell (G.2.1 c) (rnq G (len, z)))
          rw [j_cell]
          exact hcell
        exact va_castA hx hb hown (hts _ hl) hP 0 rfl (va_nmO (hK.2.1 c _ e1).2 e2) hd k1
      next => cases hcs
  next => cases ha
/-- the class object of Object[]: a constant, and what getClass gives of such an array -/
theorem r_mirror {ix : Nat} (hl : Cond.classLink i.1 ix "[Ljava/lang/Object;" ∈ lwg) (hd : decode i.2.1 pc = .ok (.ldc ix, 2)) : j_ok G tm i pc (j_st (f_psh (.ref 3)) (pc + 2)) :=
  j_ok_st fun st st' h x H locs cells slots Q ls hc k => by
    cases h
    exact va_ldcM hc.1 hc.2.1 hc.2.2.2.1 (hc.2.2.2.2.1 _ hl) hc.2.2.2.2.2.1.2.2.2.2.2.2.2.2.1 hd k
end MORE
