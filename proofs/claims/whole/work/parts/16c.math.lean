/-! Math.min, Math.max (own text) -/
section MATHS
variable {G : j_G} {tm : Nat → MethodName × Cond} {i : j_I} {pc : Nat}
def j_mx (n : Nat) : j_S := fun lc st mem => match st with
  | .int y :: .int x :: r => bif Nat.ble (j_sc r) 8 then some (.inl (n, lc, .int (if x < y then y else x) :: r, mem)) else none
  | _ => none
def j_mn (n : Nat) : j_S := fun lc st mem => match st with
  | .int y :: .int x :: r => bif Nat.ble (j_sc r) 8 then some (.inl (n, lc, .int (if y < x then y else x) :: r, mem)) else none
  | _ => none
theorem r_mmax {ix : Nat} (hl : Cond.methodLink i.1 ix Lib.Math.max.name ∈ lwg) (hs0 : Cond.static Lib.Math.max.name ∈ lwg) (hini : Cond.initialized "java/lang/Math" ∈ lwg) (hcd : Cond.code Lib.Math.max.name Lib.Math.max.code 2 (some .int) ∈ lwg) (hd : decode i.2.1 pc = .ok (.invokestatic ix, 3)) : j_ok G tm i pc (j_mx (pc + 3)) := by
  intro lc st mem act ha
  unfold j_mx at ha
  split at ha
  next y x r =>
    cases hcs : Nat.ble (j_sc r) 8 with
    | false => rw [hcs] at ha; cases ha
    | true =>
      rw [hcs] at ha
      cases ha
      have hsc := Nat.le_of_ble_eq_true hcs
      refine ⟨Nat.le_refl _, Nat.le_refl _, fun x H locs cells slots Q ls hc hR hH hB h1 h2 kk => ?_⟩
      have k1 := kk H locs ls hR hH hB
      simp only [Nat.sub_self, Nat.add_zero] at k1 h1 h2
      obtain ⟨hx, hb, hml, hown, hts, hK, hrm, -⟩ := hc
      exact va_mmax hx hb (by rw [hml]; exact hH.1.symm) hown (hts _ hl) (hts _ hs0) (hts _ hini) (hts _ hcd) hrm.1 (by rw [j_sc_rn]; omega) h1 h2 hd k1
  next => cases ha
theorem r_mmin {ix : Nat} (hl : Cond.methodLink i.1 ix Lib.Math.min.name ∈ lwg) (hs0 : Cond.static Lib.Math.min.name ∈ lwg) (hini : Cond.initialized "java/lang/Math" ∈ lwg) (hcd : Cond.code Lib.Math.min.name Lib.Math.min.code 2 (some .int) ∈ lwg) (hd : decode i.2.1 pc = .ok (.invokestatic ix, 3)) : j_ok G tm i pc (j_mn (pc + 3)) := by
  intro lc st mem act ha
  unfold j_mn at ha
  split at ha
  next y x r =>
    cases hcs : Nat.ble (j_sc r) 8 with
    | false => rw [hcs] at ha; cases ha
    | true =>
      rw [hcs] at ha
      cases ha
      have hsc := Nat.le_of_ble_eq_true hcs
      refine ⟨Nat.le_refl _, Nat.le_refl _, fun x H locs cells slots Q ls hc hR hH hB h1 h2 kk => ?_⟩
      have k1 := kk H locs ls hR hH hB
      simp only [Nat.sub_self, Nat.add_zero] at k1 h1 h2
      obtain ⟨hx, hb, hml, hown, hts, hK, hrm, -⟩ := hc
      exact va_mmin hx hb (by rw [hml]; exact hH.1.symm) hown (hts _ hl) (hts _ hs0) (hts _ hini) (hts _ hcd) hrm.1 (by rw [j_sc_rn]; omega) h1 h2 hd k1
  next => cases ha
end MATHS
