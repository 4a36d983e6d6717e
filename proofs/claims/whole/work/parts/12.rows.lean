/-! ROWS ON THE STACK AND THE LOCALS (own text) -/
def f_psh (v : Value) (st : List Value) : Option (List Value) := some (v :: st)
def f_ii (op : Int32 → Int32 → Int32) (st : List Value) : Option (List Value) := match st with
  | .int y :: .int x :: r => some (.int (op x y) :: r)
  | _ => none
def f_iin (op : Int32 → Int32 → Int32) (st : List Value) : Option (List Value) := match st with
  | .int y :: .int x :: r => if y = 0 then none else some (.int (op x y) :: r)
  | _ => none
def f_ll (op : Int64 → Int64 → Int64) (st : List Value) : Option (List Value) := match st with
  | .long y :: .long x :: r => some (.long (op x y) :: r)
  | _ => none
def f_li (op : Int64 → Int32 → Int64) (st : List Value) : Option (List Value) := match st with
  | .int y :: .long x :: r => some (.long (op x y) :: r)
  | _ => none
def f_cmp (st : List Value) : Option (List Value) := match st with
  | .long y :: .long x :: r => some (.int (lg_cmp x y) :: r)
  | _ => none
def f_i (op : Int32 → Int32) (st : List Value) : Option (List Value) := match st with
  | .int x :: r => some (.int (op x) :: r)
  | _ => none
def f_i2l (st : List Value) : Option (List Value) := match st with
  | .int x :: r => some (.long x.toInt64 :: r)
  | _ => none
def f_l2i (st : List Value) : Option (List Value) := match st with
  | .long x :: r => some (.int x.toInt32 :: r)
  | _ => none
def f_dup (st : List Value) : Option (List Value) := match st with
  | v :: r => bif v.category == 1 then some (v :: v :: r) else none
  | _ => none
def f_pop (st : List Value) : Option (List Value) := match st with
  | v :: r => bif v.category == 1 then some r else none
  | _ => none
def f_dup2 (st : List Value) : Option (List Value) := match st with
  | v :: u :: r => bif (v.category == 1) && (u.category == 1) then some (v :: u :: v :: u :: r) else none
  | _ => none
def f_dupx1 (st : List Value) : Option (List Value) := match st with
  | v :: u :: r => bif (v.category == 1) && (u.category == 1) then some (v :: u :: v :: r) else none
  | _ => none
def f_id (st : List Value) : Option (List Value) := some st
def f_if (p : Int32 → Bool) (st : List Value) : Option (Bool × List Value) := match st with
  | .int x :: r => some (p x, r)
  | _ => none
def f_ic (p : Int32 → Int32 → Bool) (st : List Value) : Option (Bool × List Value) := match st with
  | .int y :: .int x :: r => some (p x y, r)
  | _ => none
def f_nl (b : Bool) (st : List Value) : Option (Bool × List Value) := match st with
  | .null :: r => some (b, r)
  | .ref _ :: r => some (!b, r)
  | _ => none
/-- references are compared by their numbers, where that is right: one of them is a new cell, or they are the same -/
def f_ac (b : Bool) (st : List Value) : Option (Bool × List Value) := match st with
  | .ref y :: .ref x :: r => bif (x == y) || ((Nat.ble 4 x || Nat.ble 4 y) && !(x == 3) && !(y == 3)) then some ((x == y) == b, r) else none
  | _ => none
section RWS
variable {G : j_G} {tm : Nat → MethodName × Cond} {i : j_I} {pc : Nat}
theorem r_iconst {k : Int} {v : Int32} (hd : decode i.2.1 pc = .ok (.iconst k, 1)) (hv : Int32.ofInt k = v) : j_ok G tm i pc (j_st (f_psh (.int v)) (pc + 1)) :=
  j_ok_st fun st st' h x H locs cells slots Q ls hc k => by cases h; exact lv_iconst hc.1 hc.2.1 hd hv k
theorem r_bipush {k : Int} {v : Int32} (hd : decode i.2.1 pc = .ok (.bipush k, 2)) (hv : (Int8.ofInt k).toInt32 = v) : j_ok G tm i pc (j_st (f_psh (.int v)) (pc + 2)) :=
  j_ok_st fun st st' h x H locs cells slots Q ls hc k => by cases h; exact lv_bipush hc.1 hc.2.1 hd hv k
theorem r_sipush {k : Int} {v : Int32} (hd : decode i.2.1 pc = .ok (.sipush k, 3)) (hv : (Int16.ofInt k).toInt32 = v) : j_ok G tm i pc (j_st (f_psh (.int v)) (pc + 3)) :=
  j_ok_st fun st st' h x H locs cells slots Q ls hc k => by cases h; exact lv_sipush hc.1 hc.2.1 hd hv k
theorem r_lconst {k : Fin 2} {v : Int64} (hd : decode i.2.1 pc = .ok (.lconst k, 1)) (hv : Int64.ofNat (k : Nat) = v) : j_ok G tm i pc (j_st (f_psh (.long v)) (pc + 1)) :=
  j_ok_st fun st st' h x H locs cells slots Q ls hc k => by cases h; exact lv_lconst hc.1 hc.2.1 hd hv k
theorem r_null (hd : decode i.2.1 pc = .ok (.aconst_null, 1)) : j_ok G tm i pc (j_st (f_psh .null) (pc + 1)) :=
  j_ok_st fun st st' h x H locs cells slots Q ls hc k => by cases h; exact lv_null hc.1 hc.2.1 hd k
theorem r_ldc {ix : Nat} {v : Int32} (hw : Cond.constant i.1 ix v ∈ lwg) (hd : decode i.2.1 pc = .ok (.ldc ix, 2)) : j_ok G tm i pc (j_st (f_psh (.int v)) (pc + 2)) :=
  j_ok_st fun st st' h x H locs cells slots Q ls hc k => by cases h; exact lv_ldc hc.1 hc.2.1 hc.2.2.2.1 (hc.2.2.2.2.1 _ hw) hd k
theorem r_ldc2 {ix : Nat} {v : Int64} (hw : Cond.constantLong i.1 ix v ∈ lwg) (hd : decode i.2.1 pc = .ok (.ldc2_w ix, 3)) : j_ok G tm i pc (j_st (f_psh (.long v)) (pc + 3)) :=
  j_ok_st fun st st' h x H locs cells slots Q ls hc k => by cases h; exact lv_ldc2 hc.1 hc.2.1 hc.2.2.2.1 (hc.2.2.2.2.1 _ hw) hd k
theorem f_ii_inv {op : Int32 → Int32 → Int32} {st st' : List Value} (h : f_ii op st = some st') : ∃ x y r, st = .int y :: .int x :: r ∧ st' = .int (op x y) :: r := by
  unfold f_ii at h
  split at h
  next y x r => cases h; exact ⟨x, y, r, rfl, rfl⟩
  next => cases h
theorem f_iin_inv {op : Int32 → Int32 → Int32} {st st' : List Value} (h : f_iin op st = some st') : ∃ x y r, ¬ y = 0 ∧ st = .int y :: .int x :: r ∧ st' = .int (op x y) :: r := by
  unfold f_iin at h
  split at h
  next y x r =>
    by_cases hy : y = 0
    · rw [if_pos hy] at h; cases h
    · rw [if_neg hy] at h; cases h; exact ⟨x, y, r, hy, rfl, rfl⟩
  next => cases h
theorem f_ll_inv {op : Int64 → Int64 → Int64} {st st' : List Value} (h : f_ll op st = some st') : ∃ x y r, st = .long y :: .long x :: r ∧ st' = .long (op x y) :: r := by
  unfold f_ll at h
  split at h
  next y x r => cases h; exact ⟨x, y, r, rfl, rfl⟩
  next => cases h
theorem f_li_inv {op : Int64 → Int32 → Int64} {st st' : List Value} (h : f_li op st = some st') : ∃ x y r, st = .int y :: .long x :: r ∧ st' = .long (op x y) :: r := by
  unfold f_li at h
  split at h
  next y x r => cases h; exact ⟨x, y, r, rfl, rfl⟩
  next => cases h
theorem f_i_inv {op : Int32 → Int32} {st st' : List Value} (h : f_i op st = some st') : ∃ x r, st = .int x :: r ∧ st' = .int (op x) :: r := by
  unfold f_i at h
  split at h
  next x r => cases h; exact ⟨x, r, rfl, rfl⟩
  next => cases h
theorem r_iadd (hd : decode i.2.1 pc = .ok (.iadd, 1)) : j_ok G tm i pc (j_st (f_ii (fun a b => a + b)) (pc + 1)) :=
  j_ok_st fun st st' h x H locs cells slots Q ls hc k => by obtain ⟨a, b, r, rfl, rfl⟩ := f_ii_inv h; exact lv_iadd hc.1 hc.2.1 hd k
theorem r_isub (hd : decode i.2.1 pc = .ok (.isub, 1)) : j_ok G tm i pc (j_st (f_ii (fun a b => a - b)) (pc + 1)) :=
  j_ok_st fun st st' h x H locs cells slots Q ls hc k => by obtain ⟨a, b, r, rfl, rfl⟩ := f_ii_inv h; exact lv_isub hc.1 hc.2.1 hd k
theorem r_imul (hd : decode i.2.1 pc = .ok (.imul, 1)) : j_ok G tm i pc (j_st (f_ii (fun a b => a * b)) (pc + 1)) :=
  j_ok_st fun st st' h x H locs cells slots Q ls hc k => by obtain ⟨a, b, r, rfl, rfl⟩ := f_ii_inv h; exact lv_imul hc.1 hc.2.1 hd k
theorem r_iand (hd : decode i.2.1 pc = .ok (.iand, 1)) : j_ok G tm i pc (j_st (f_ii (fun a b => a &&& b)) (pc + 1)) :=
  j_ok_st fun st st' h x H locs cells slots Q ls hc k => by obtain ⟨a, b, r, rfl, rfl⟩ := f_ii_inv h; exact lv_iand hc.1 hc.2.1 hd k
theorem r_ior (hd : decode i.2.1 pc = .ok (.ior, 1)) : j_ok G tm i pc (j_st (f_ii (fun a b => a ||| b)) (pc + 1)) :=
  j_ok_st fun st st' h x H locs cells slots Q ls hc k => by obtain ⟨a, b, r, rfl, rfl⟩ := f_ii_inv h; exact lv_ior hc.1 hc.2.1 hd k
theorem r_ixor (hd : decode i.2.1 pc = .ok (.ixor, 1)) : j_ok G tm i pc (j_st (f_ii (fun a b => a ^^^ b)) (pc + 1)) :=
  j_ok_st fun st st' h x H locs cells slots Q ls hc k => by obtain ⟨a, b, r, rfl, rfl⟩ := f_ii_inv h; exact lv_ixor hc.1 hc.2.1 hd k
theorem r_ishl (hd : decode i.2.1 pc = .ok (.ishl, 1)) : j_ok G tm i pc (j_st (f_ii (fun a b => a <<< (b &&& 31))) (pc + 1)) :=
  j_ok_st fun st st' h x H locs cells slots Q ls hc k => by obtain ⟨a, b, r, rfl, rfl⟩ := f_ii_inv h; exact lv_ishl hc.1 hc.2.1 hd k
theorem r_ishr (hd : decode i.2.1 pc = .ok (.ishr, 1)) : j_ok G tm i pc (j_st (f_ii (fun a b => a >>> (b &&& 31))) (pc + 1)) :=
  j_ok_st fun st st' h x H locs cells slots Q ls hc k => by obtain ⟨a, b, r, rfl, rfl⟩ := f_ii_inv h; exact lv_ishr hc.1 hc.2.1 hd k
theorem r_iushr (hd : decode i.2.1 pc = .ok (.iushr, 1)) : j_ok G tm i pc (j_st (f_ii (fun a b => (a.toUInt32 >>> (b.toUInt32 &&& Int32.toUInt32 31)).toInt32)) (pc + 1)) :=
  j_ok_st fun st st' h x H locs cells slots Q ls hc k => by obtain ⟨a, b, r, rfl, rfl⟩ := f_ii_inv h; exact lv_iushr hc.1 hc.2.1 hd rfl k
theorem r_idiv (hd : decode i.2.1 pc = .ok (.idiv, 1)) : j_ok G tm i pc (j_st (f_iin (fun a b => a / b)) (pc + 1)) :=
  j_ok_st fun st st' h x H locs cells slots Q ls hc k => by obtain ⟨a, b, r, hy, rfl, rfl⟩ := f_iin_inv h; exact lv_idiv hc.1 hc.2.1 hd hy k
theorem r_irem (hd : decode i.2.1 pc = .ok (.irem, 1)) : j_ok G tm i pc (j_st (f_iin (fun a b => a - a / b * b)) (pc + 1)) :=
  j_ok_st fun st st' h x H locs cells slots Q ls hc k => by obtain ⟨a, b, r, hy, rfl, rfl⟩ := f_iin_inv h; exact lv_irem hc.1 hc.2.1 hd hy k
theorem r_ineg (hd : decode i.2.1 pc = .ok (.ineg, 1)) : j_ok G tm i pc (j_st (f_i (fun a => -a)) (pc + 1)) :=
  j_ok_st fun st st' h x H locs cells slots Q ls hc k => by obtain ⟨a, r, rfl, rfl⟩ := f_i_inv h; exact lv_ineg hc.1 hc.2.1 hd k
theorem r_i2b (hd : decode i.2.1 pc = .ok (.i2b, 1)) : j_ok G tm i pc (j_st (f_i (fun a => a.toInt8.toInt32)) (pc + 1)) :=
  j_ok_st fun st st' h x H locs cells slots Q ls hc k => by obtain ⟨a, r, rfl, rfl⟩ := f_i_inv h; exact lv_i2b hc.1 hc.2.1 hd rfl k
theorem r_ladd (hd : decode i.2.1 pc = .ok (.ladd, 1)) : j_ok G tm i pc (j_st (f_ll (fun a b => a + b)) (pc + 1)) :=
  j_ok_st fun st st' h x H locs cells slots Q ls hc k => by obtain ⟨a, b, r, rfl, rfl⟩ := f_ll_inv h; exact lv_ladd hc.1 hc.2.1 hd k
theorem r_lsub (hd : decode i.2.1 pc = .ok (.lsub, 1)) : j_ok G tm i pc (j_st (f_ll (fun a b => a - b)) (pc + 1)) :=
  j_ok_st fun st st' h x H locs cells slots Q ls hc k => by obtain ⟨a, b, r, rfl, rfl⟩ := f_ll_inv h; exact lv_lsub hc.1 hc.2.1 hd k
theorem r_lmul (hd : decode i.2.1 pc = .ok (.lmul, 1)) : j_ok G tm i pc (j_st (f_ll (fun a b => a * b)) (pc + 1)) :=
  j_ok_st fun st st' h x H locs cells slots Q ls hc k => by obtain ⟨a, b, r, rfl, rfl⟩ := f_ll_inv h; exact lv_lmul hc.1 hc.2.1 hd k
theorem r_land (hd : decode i.2.1 pc = .ok (.land, 1)) : j_ok G tm i pc (j_st (f_ll (fun a b => a &&& b)) (pc + 1)) :=
  j_ok_st fun st st' h x H locs cells slots Q ls hc k => by obtain ⟨a, b, r, rfl, rfl⟩ := f_ll_inv h; exact lv_land hc.1 hc.2.1 hd k
theorem r_lor (hd : decode i.2.1 pc = .ok (.lor, 1)) : j_ok G tm i pc (j_st (f_ll (fun a b => a ||| b)) (pc + 1)) :=
  j_ok_st fun st st' h x H locs cells slots Q ls hc k => by obtain ⟨a, b, r, rfl, rfl⟩ := f_ll_inv h; exact lv_lor hc.1 hc.2.1 hd k
theorem r_lxor (hd : decode i.2.1 pc = .ok (.lxor, 1)) : j_ok G tm i pc (j_st (f_ll (fun a b => a ^^^ b)) (pc + 1)) :=
  j_ok_st fun st st' h x H locs cells slots Q ls hc k => by obtain ⟨a, b, r, rfl, rfl⟩ := f_ll_inv h; exact lv_lxor hc.1 hc.2.1 hd k
theorem r_lshl (hd : decode i.2.1 pc = .ok (.lshl, 1)) : j_ok G tm i pc (j_st (f_li (fun a b => a <<< (b.toInt64 &&& 63))) (pc + 1)) :=
  j_ok_st fun st st' h x H locs cells slots Q ls hc k => by obtain ⟨a, b, r, rfl, rfl⟩ := f_li_inv h; exact lv_lshl hc.1 hc.2.1 hd rfl k
theorem r_lshr (hd : decode i.2.1 pc = .ok (.lshr, 1)) : j_ok G tm i pc (j_st (f_li (fun a b => a >>> (b.toInt64 &&& 63))) (pc + 1)) :=
  j_ok_st fun st st' h x H locs cells slots Q ls hc k => by obtain ⟨a, b, r, rfl, rfl⟩ := f_li_inv h; exact lv_lshr hc.1 hc.2.1 hd rfl k
theorem r_lushr (hd : decode i.2.1 pc = .ok (.lushr, 1)) : j_ok G tm i pc (j_st (f_li (fun a b => (a.toUInt64 >>> (b.toInt64.toUInt64 &&& Int64.toUInt64 63)).toInt64)) (pc + 1)) :=
  j_ok_st fun st st' h x H locs cells slots Q ls hc k => by obtain ⟨a, b, r, rfl, rfl⟩ := f_li_inv h; exact lv_lushr hc.1 hc.2.1 hd rfl k
theorem r_i2l (hd : decode i.2.1 pc = .ok (.i2l, 1)) : j_ok G tm i pc (j_st f_i2l (pc + 1)) :=
  j_ok_st fun st st' h x H locs cells slots Q ls hc k => by
    unfold f_i2l at h
    split at h
    next a r => cases h; exact lv_i2l hc.1 hc.2.1 hd rfl k
    next => cases h
theorem r_l2i (hd : decode i.2.1 pc = .ok (.l2i, 1)) : j_ok G tm i pc (j_st f_l2i (pc + 1)) :=
  j_ok_st fun st st' h x H locs cells slots Q ls hc k => by
    unfold f_l2i at h
    split at h
    next a r => cases h; exact lv_l2i hc.1 hc.2.1 hd rfl k
    next => cases h
theorem r_lcmp (hd : decode i.2.1 pc = .ok (.lcmp, 1)) : j_ok G tm i pc (j_st f_cmp (pc + 1)) :=
  j_ok_st fun st st' h x H locs cells slots Q ls hc k => by
    unfold f_cmp at h
    split at h
    next b a r => cases h; exact W.lcmp hc.1 hc.2.1 hd k
    next => cases h
theorem r_dup (hd : decode i.2.1 pc = .ok (.dup, 1)) : j_ok G tm i pc (j_st f_dup (pc + 1)) :=
  j_ok_st fun st st' h x H locs cells slots Q ls hc k => by
    unfold f_dup at h
    split at h
    next v r =>
      cases hv : v.category == 1 with
      | false => simp [hv] at h
      | true =>
        simp only [hv, cond_true, Option.some.injEq] at h
        subst h
        exact lv_dup hc.1 hc.2.1 hd (by rw [rn_cat]; exact beq_iff_eq.mp hv) k
    next => cases h
theorem r_pop (hd : decode i.2.1 pc = .ok (.pop, 1)) : j_ok G tm i pc (j_st f_pop (pc + 1)) :=
  j_ok_st fun st st' h x H locs cells slots Q ls hc k => by
    unfold f_pop at h
    split at h
    next v r =>
      cases hv : v.category == 1 with
      | false => simp [hv] at h
      | true =>
        simp only [hv, cond_true, Option.some.injEq] at h
        subst h
        exact lv_pop (va := rn G v) hc.1 hc.2.1 hd (by rw [rn_cat]; exact beq_iff_eq.mp hv) k
    next => cases h
theorem r_dup2 (hd : decode i.2.1 pc = .ok (.dup2, 1)) : j_ok G tm i pc (j_st f_dup2 (pc + 1)) :=
  j_ok_st fun st st' h x H locs cells slots Q ls hc k => by
    unfold f_dup2 at h
    split at h
    next v u r =>
      cases hv : (v.category == 1) && (u.category == 1) with
      | false => simp [hv] at h
      | true =>
        simp only [hv, cond_true, Option.some.injEq] at h
        subst h
        simp only [Bool.and_eq_true, beq_iff_eq] at hv
        exact lv_dup2_11 hc.1 hc.2.1 hd (by rw [rn_cat]; exact hv.1) (by rw [rn_cat]; exact hv.2) k
    next => cases h
theorem r_dupx1 (hd : decode i.2.1 pc = .ok (.dup_x1, 1)) : j_ok G tm i pc (j_st f_dupx1 (pc + 1)) :=
  j_ok_st fun st st' h x H locs cells slots Q ls hc k => by
    unfold f_dupx1 at h
    split at h
    next v u r =>
      cases hv : (v.category == 1) && (u.category == 1) with
      | false => simp [hv] at h
      | true =>
        simp only [hv, cond_true, Option.some.injEq] at h
        subst h
        simp only [Bool.and_eq_true, beq_iff_eq] at hv
        exact lv_dup_x1 hc.1 hc.2.1 hd (by rw [rn_cat]; exact hv.1) (by rw [rn_cat]; exact hv.2) k
    next => cases h
theorem r_goto {off : Int} {t : Nat} (hd : decode i.2.1 pc = .ok (.goto off, 3)) (ht : (pc : Int) + off = (t : Int)) : j_ok G tm i pc (j_st f_id t) :=
  j_ok_st fun st st' h x H locs cells slots Q ls hc k => by cases h; exact lv_goto hc.1 hc.2.1 hd ht k
theorem f_if_inv {p : Int32 → Bool} {st st' : List Value} {b : Bool} (h : f_if p st = some (b, st')) : ∃ x, st = .int x :: st' ∧ b = p x := by
  unfold f_if at h
  split at h
  next x r => cases h; exact ⟨x, rfl, rfl⟩
  next => cases h
theorem f_ic_inv {p : Int32 → Int32 → Bool} {st st' : List Value} {b : Bool} (h : f_ic p st = some (b, st')) : ∃ x y, st = .int y :: .int x :: st' ∧ b = p x y := by
  unfold f_ic at h
  split at h
  next y x r => cases h; exact ⟨x, y, rfl, rfl⟩
  next => cases h
theorem r_if_eq {off : Int} {t : Nat} (hd : decode i.2.1 pc = .ok (.ifCond .eq off, 3)) (ht : (pc : Int) + off = (t : Int)) : j_ok G tm i pc (j_br (f_if (fun x => decide (x = 0))) t (pc + 3)) :=
  j_ok_br fun st b st' h x H locs cells slots Q ls hc k => by
    obtain ⟨a, rfl, hb⟩ := f_if_inv h
    cases b with
    | true =>
      have z := of_decide_eq_true hb.symm
      exact lv_if_eq hc.1 hc.2.1 hd ht (fun _ => k) (fun z' => absurd z z')
    | false =>
      have z := of_decide_eq_false hb.symm
      exact lv_if_eq hc.1 hc.2.1 hd ht (fun z' => absurd z' z) (fun _ => k)
theorem r_ic_eq {off : Int} {t : Nat} (hd : decode i.2.1 pc = .ok (.if_icmp .eq off, 3)) (ht : (pc : Int) + off = (t : Int)) : j_ok G tm i pc (j_br (f_ic (fun x y => decide (x = y))) t (pc + 3)) :=
  j_ok_br fun st b st' h x H locs cells slots Q ls hc k => by
    obtain ⟨a, d, rfl, hb⟩ := f_ic_inv h
    cases b with
    | true =>
      have z := of_decide_eq_true hb.symm
      exact lv_icmp_eq hc.1 hc.2.1 hd ht (fun _ => k) (fun z' => absurd z z')
    | false =>
      have z := of_decide_eq_false hb.symm
      exact lv_icmp_eq hc.1 hc.2.1 hd ht (fun z' => absurd z' z) (fun _ => k)
theorem r_if_ne {off : Int} {t : Nat} (hd : decode i.2.1 pc = .ok (.ifCond .ne off, 3)) (ht : (pc : Int) + off = (t : Int)) : j_ok G tm i pc (j_br (f_if (fun x => decide (¬ x = 0))) t (pc + 3)) :=
  j_ok_br fun st b st' h x H locs cells slots Q ls hc k => by
    obtain ⟨a, rfl, hb⟩ := f_if_inv h
    cases b with
    | true =>
      have z := of_decide_eq_true hb.symm
      exact lv_if_ne hc.1 hc.2.1 hd ht (fun _ => k) (fun z' => absurd z' z)
    | false =>
      have z := of_decide_eq_false hb.symm
      exact lv_if_ne hc.1 hc.2.1 hd ht (fun z' => absurd z' z) (fun _ => k)
theorem r_ic_ne {off : Int} {t : Nat} (hd : decode i.2.1 pc = .ok (.if_icmp .ne off, 3)) (ht : (pc : Int) + off = (t : Int)) : j_ok G tm i pc (j_br (f_ic (fun x y => decide (¬ x = y))) t (pc + 3)) :=
  j_ok_br fun st b st' h x H locs cells slots Q ls hc k => by
    obtain ⟨a, d, rfl, hb⟩ := f_ic_inv h
    cases b with
    | true =>
      have z := of_decide_eq_true hb.symm
      exact lv_icmp_ne hc.1 hc.2.1 hd ht (fun _ => k) (fun z' => absurd z' z)
    | false =>
      have z := of_decide_eq_false hb.symm
      exact lv_icmp_ne hc.1 hc.2.1 hd ht (fun z' => absurd z' z) (fun _ => k)
theorem r_if_lt {off : Int} {t : Nat} (hd : decode i.2.1 pc = .ok (.ifCond .lt off, 3)) (ht : (pc : Int) + off = (t : Int)) : j_ok G tm i pc (j_br (f_if (fun x => decide (x < 0))) t (pc + 3)) :=
  j_ok_br fun st b st' h x H locs cells slots Q ls hc k => by
    obtain ⟨a, rfl, hb⟩ := f_if_inv h
    cases b with
    | true =>
      have z := of_decide_eq_true hb.symm
      exact lv_if_lt hc.1 hc.2.1 hd ht (fun _ => k) (fun z' => absurd z z')
    | false =>
      have z := of_decide_eq_false hb.symm
      exact lv_if_lt hc.1 hc.2.1 hd ht (fun z' => absurd z' z) (fun _ => k)
theorem r_ic_lt {off : Int} {t : Nat} (hd : decode i.2.1 pc = .ok (.if_icmp .lt off, 3)) (ht : (pc : Int) + off = (t : Int)) : j_ok G tm i pc (j_br (f_ic (fun x y => decide (x < y))) t (pc + 3)) :=
  j_ok_br fun st b st' h x H locs cells slots Q ls hc k => by
    obtain ⟨a, d, rfl, hb⟩ := f_ic_inv h
    cases b with
    | true =>
      have z := of_decide_eq_true hb.symm
      exact lv_icmp_lt hc.1 hc.2.1 hd ht (fun _ => k) (fun z' => absurd z z')
    | false =>
      have z := of_decide_eq_false hb.symm
      exact lv_icmp_lt hc.1 hc.2.1 hd ht (fun z' => absurd z' z) (fun _ => k)
theorem r_if_ge {off : Int} {t : Nat} (hd : decode i.2.1 pc = .ok (.ifCond .ge off, 3)) (ht : (pc : Int) + off = (t : Int)) : j_ok G tm i pc (j_br (f_if (fun x => decide (0 ≤ x))) t (pc + 3)) :=
  j_ok_br fun st b st' h x H locs cells slots Q ls hc k => by
    obtain ⟨a, rfl, hb⟩ := f_if_inv h
    cases b with
    | true =>
      have z := of_decide_eq_true hb.symm
      exact lv_if_ge hc.1 hc.2.1 hd ht (fun _ => k) (fun z' => absurd z z')
    | false =>
      have z := of_decide_eq_false hb.symm
      exact lv_if_ge hc.1 hc.2.1 hd ht (fun z' => absurd z' z) (fun _ => k)
theorem r_ic_ge {off : Int} {t : Nat} (hd : decode i.2.1 pc = .ok (.if_icmp .ge off, 3)) (ht : (pc : Int) + off = (t : Int)) : j_ok G tm i pc (j_br (f_ic (fun x y => decide (y ≤ x))) t (pc + 3)) :=
  j_ok_br fun st b st' h x H locs cells slots Q ls hc k => by
    obtain ⟨a, d, rfl, hb⟩ := f_ic_inv h
    cases b with
    | true =>
      have z := of_decide_eq_true hb.symm
      exact lv_icmp_ge hc.1 hc.2.1 hd ht (fun _ => k) (fun z' => absurd z z')
    | false =>
      have z := of_decide_eq_false hb.symm
      exact lv_icmp_ge hc.1 hc.2.1 hd ht (fun z' => absurd z' z) (fun _ => k)
theorem r_if_gt {off : Int} {t : Nat} (hd : decode i.2.1 pc = .ok (.ifCond .gt off, 3)) (ht : (pc : Int) + off = (t : Int)) : j_ok G tm i pc (j_br (f_if (fun x => decide (0 < x))) t (pc + 3)) :=
  j_ok_br fun st b st' h x H locs cells slots Q ls hc k => by
    obtain ⟨a, rfl, hb⟩ := f_if_inv h
    cases b with
    | true =>
      have z := of_decide_eq_true hb.symm
      exact lv_if_gt hc.1 hc.2.1 hd ht (fun _ => k) (fun z' => absurd z z')
    | false =>
      have z := of_decide_eq_false hb.symm
      exact lv_if_gt hc.1 hc.2.1 hd ht (fun z' => absurd z' z) (fun _ => k)
theorem r_ic_gt {off : Int} {t : Nat} (hd : decode i.2.1 pc = .ok (.if_icmp .gt off, 3)) (ht : (pc : Int) + off = (t : Int)) : j_ok G tm i pc (j_br (f_ic (fun x y => decide (y < x))) t (pc + 3)) :=
  j_ok_br fun st b st' h x H locs cells slots Q ls hc k => by
    obtain ⟨a, d, rfl, hb⟩ := f_ic_inv h
    cases b with
    | true =>
      have z := of_decide_eq_true hb.symm
      exact lv_icmp_gt hc.1 hc.2.1 hd ht (fun _ => k) (fun z' => absurd z z')
    | false =>
      have z := of_decide_eq_false hb.symm
      exact lv_icmp_gt hc.1 hc.2.1 hd ht (fun z' => absurd z' z) (fun _ => k)
theorem r_if_le {off : Int} {t : Nat} (hd : decode i.2.1 pc = .ok (.ifCond .le off, 3)) (ht : (pc : Int) + off = (t : Int)) : j_ok G tm i pc (j_br (f_if (fun x => decide (x ≤ 0))) t (pc + 3)) :=
  j_ok_br fun st b st' h x H locs cells slots Q ls hc k => by
    obtain ⟨a, rfl, hb⟩ := f_if_inv h
    cases b with
    | true =>
      have z := of_decide_eq_true hb.symm
      exact lv_if_le hc.1 hc.2.1 hd ht (fun _ => k) (fun z' => absurd z z')
    | false =>
      have z := of_decide_eq_false hb.symm
      exact lv_if_le hc.1 hc.2.1 hd ht (fun z' => absurd z' z) (fun _ => k)
theorem r_ic_le {off : Int} {t : Nat} (hd : decode i.2.1 pc = .ok (.if_icmp .le off, 3)) (ht : (pc : Int) + off = (t : Int)) : j_ok G tm i pc (j_br (f_ic (fun x y => decide (x ≤ y))) t (pc + 3)) :=
  j_ok_br fun st b st' h x H locs cells slots Q ls hc k => by
    obtain ⟨a, d, rfl, hb⟩ := f_ic_inv h
    cases b with
    | true =>
      have z := of_decide_eq_true hb.symm
      exact lv_icmp_le hc.1 hc.2.1 hd ht (fun _ => k) (fun z' => absurd z z')
    | false =>
      have z := of_decide_eq_false hb.symm
      exact lv_icmp_le hc.1 hc.2.1 hd ht (fun z' => absurd z' z) (fun _ => k)
theorem r_ifnull {off : Int} {t : Nat} (hd : decode i.2.1 pc = .ok (.ifnull off, 3)) (ht : (pc : Int) + off = (t : Int)) : j_ok G tm i pc (j_br (f_nl true) t (pc + 3)) :=
  j_ok_br fun st b st' h x H locs cells slots Q ls hc k => by
    unfold f_nl at h
    split at h
    next r => cases h; exact lv_ifnullN hc.1 hc.2.1 hd ht k
    next a r => cases h; exact lv_ifnull hc.1 hc.2.1 hd k
    next => cases h
theorem r_ifnonnull {off : Int} {t : Nat} (hd : decode i.2.1 pc = .ok (.ifnonnull off, 3)) (ht : (pc : Int) + off = (t : Int)) : j_ok G tm i pc (j_br (f_nl false) t (pc + 3)) :=
  j_ok_br fun st b st' h x H locs cells slots Q ls hc k => by
    unfold f_nl at h
    split at h
    next r => cases h; exact lv_ifnonnullN hc.1 hc.2.1 hd k
    next a r => cases h; exact lv_ifnonnull hc.1 hc.2.1 hd ht k
    next => cases h
/-- the numbers are apart where the addresses are -/
theorem adr_ne {G : j_G} {U : State} (hK : j_K G U) {a b : Nat} (h : (a == b) = false) (h4 : ((Nat.ble 4 a || Nat.ble 4 b) && !(a == 3) && !(b == 3)) = true) : adr G a ≠ adr G b := by
  have hne : a ≠ b := by simpa using h
  have hx := hK.2.2.2.2.2.1
  simp only [Bool.and_eq_true, Bool.or_eq_true, Nat.ble_eq, Bool.not_eq_true', beq_eq_false_iff_ne, ne_eq] at h4
  obtain ⟨⟨h4, h5⟩, h6⟩ := h4
  unfold adr
  cases h1 : Nat.blt a 4 <;> cases h2 : Nat.blt b 4
  · have g1 : ¬ a < 4 := fun q => by rw [Nat.blt_eq.mpr q] at h1; cases h1
    have g2 : ¬ b < 4 := fun q => by rw [Nat.blt_eq.mpr q] at h2; cases h2
    simp only [cond_false]
    omega
  · have g1 : ¬ a < 4 := fun q => by rw [Nat.blt_eq.mpr q] at h1; cases h1
    have g2 := Nat.blt_eq.mp h2
    have := hx b (by omega)
    simp only [cond_false, cond_true]
    omega
  · have g2 : ¬ b < 4 := fun q => by rw [Nat.blt_eq.mpr q] at h2; cases h2
    have g1 := Nat.blt_eq.mp h1
    have := hx a (by omega)
    simp only [cond_false, cond_true]
    omega
  · have g1 := Nat.blt_eq.mp h1
    have g2 := Nat.blt_eq.mp h2
    omega
theorem f_ac_inv {b c : Bool} {st st' : List Value} (h : f_ac b st = some (c, st')) : ∃ x y, st = .ref y :: .ref x :: st' ∧ c = ((x == y) == b) ∧ ((x == y) || ((Nat.ble 4 x || Nat.ble 4 y) && !(x == 3) && !(y == 3))) = true := by
  unfold f_ac at h
  split at h
  next y x r =>
    cases hv : (x == y) || ((Nat.ble 4 x || Nat.ble 4 y) && !(x == 3) && !(y == 3)) with
    | false => simp [hv] at h
    | true =>
      simp only [hv, cond_true, Option.some.injEq, Prod.mk.injEq] at h
      obtain ⟨h1, h2⟩ := h
      subst h2
      exact ⟨x, y, rfl, h1.symm, hv⟩
  next => cases h
theorem r_acmpeq {off : Int} {t : Nat} (hd : decode i.2.1 pc = .ok (.if_acmp .eq off, 3)) (ht : (pc : Int) + off = (t : Int)) : j_ok G tm i pc (j_br (f_ac true) t (pc + 3)) :=
  j_ok_br fun st b st' h x H locs cells slots Q ls hc k => by
    obtain ⟨a, d, rfl, hb, h4⟩ := f_ac_inv h
    cases hq : a == d with
    | true =>
      have e : a = d := by simpa using hq
      subst e
      rw [hq] at hb
      subst hb
      exact lv_acmp_eq (rx := some (adr G a)) (ry := some (adr G a)) hc.1 hc.2.1 hd ht (fun _ => k) (fun z => absurd rfl z)
    | false =>
      rw [hq] at hb h4
      subst hb
      have hn := adr_ne hc.2.2.2.2.2.1 hq (by rw [Bool.false_or] at h4; exact h4)
      exact lv_acmp_eq (rx := some (adr G a)) (ry := some (adr G d)) hc.1 hc.2.1 hd ht (fun z => absurd (Option.some.inj z) hn) (fun _ => k)
theorem r_acmpne {off : Int} {t : Nat} (hd : decode i.2.1 pc = .ok (.if_acmp .ne off, 3)) (ht : (pc : Int) + off = (t : Int)) : j_ok G tm i pc (j_br (f_ac false) t (pc + 3)) :=
  j_ok_br fun st b st' h x H locs cells slots Q ls hc k => by
    obtain ⟨a, d, rfl, hb, h4⟩ := f_ac_inv h
    cases hq : a == d with
    | true =>
      have e : a = d := by simpa using hq
      subst e
      rw [hq] at hb
      subst hb
      exact lv_acmp_ne (rx := some (adr G a)) (ry := some (adr G a)) hc.1 hc.2.1 hd ht (fun z => absurd rfl z) (fun _ => k)
    | false =>
      rw [hq] at hb h4
      subst hb
      have hn := adr_ne hc.2.2.2.2.2.1 hq (by rw [Bool.false_or] at h4; exact h4)
      exact lv_acmp_ne (rx := some (adr G a)) (ry := some (adr G d)) hc.1 hc.2.1 hd ht (fun _ => k) (fun z => absurd (Option.some.inj z) hn)
theorem j_kd0 {v : Value} (h : j_kd 0 v = true) : ∃ a, v = .int a := by cases v <;> first | exact ⟨_, rfl⟩ | (simp [j_kd] at h)
theorem j_kd1 {v : Value} (h : j_kd 1 v = true) : ∃ a, v = .long a := by cases v <;> first | exact ⟨_, rfl⟩ | (simp [j_kd] at h)
theorem j_kd2 {v : Value} (h : j_kd 2 v = true) : v = .null ∨ ∃ a, v = .ref a := by cases v <;> first | exact Or.inl rfl | exact Or.inr ⟨_, rfl⟩ | (simp [j_kd] at h)
theorem r_iload_n {k : Fin 4} {a : Nat} (hd : decode i.2.1 pc = .ok (.iload_n k, 1)) (hk : (k : Nat) = a) : j_ok G tm i pc (j_ld 0 a (pc + 1)) :=
  j_ok_ld fun v hv x H locs cells slots Q ls rest hc hl k => by obtain ⟨z, rfl⟩ := j_kd0 hv; exact lv_iload_n hc.1 hc.2.1 hd hk hl k
theorem r_iload {a : Nat} (hd : decode i.2.1 pc = .ok (.iload a, 2)) : j_ok G tm i pc (j_ld 0 a (pc + 2)) :=
  j_ok_ld fun v hv x H locs cells slots Q ls rest hc hl k => by obtain ⟨z, rfl⟩ := j_kd0 hv; exact lv_iload hc.1 hc.2.1 hd hl k
theorem r_lload_n {k : Fin 4} {a : Nat} (hd : decode i.2.1 pc = .ok (.lload_n k, 1)) (hk : (k : Nat) = a) : j_ok G tm i pc (j_ld 1 a (pc + 1)) :=
  j_ok_ld fun v hv x H locs cells slots Q ls rest hc hl k => by obtain ⟨z, rfl⟩ := j_kd1 hv; exact lv_lload_n hc.1 hc.2.1 hd hk hl k
theorem r_lload {a : Nat} (hd : decode i.2.1 pc = .ok (.lload a, 2)) : j_ok G tm i pc (j_ld 1 a (pc + 2)) :=
  j_ok_ld fun v hv x H locs cells slots Q ls rest hc hl k => by obtain ⟨z, rfl⟩ := j_kd1 hv; exact lv_lload hc.1 hc.2.1 hd hl k
theorem r_aload_n {k : Fin 4} {a : Nat} (hd : decode i.2.1 pc = .ok (.aload_n k, 1)) (hk : (k : Nat) = a) : j_ok G tm i pc (j_ld 2 a (pc + 1)) :=
  j_ok_ld fun v hv x H locs cells slots Q ls rest hc hl k => by
    rcases j_kd2 hv with rfl | ⟨z, rfl⟩
    · exact lv_aload_nN hc.1 hc.2.1 hd hk hl k
    · exact lv_aload_n hc.1 hc.2.1 hd hk hl k
theorem r_aload {a : Nat} (hd : decode i.2.1 pc = .ok (.aload a, 2)) : j_ok G tm i pc (j_ld 2 a (pc + 2)) :=
  j_ok_ld fun v hv x H locs cells slots Q ls rest hc hl k => by
    rcases j_kd2 hv with rfl | ⟨z, rfl⟩
    · exact lv_aloadN hc.1 hc.2.1 hd hl k
    · exact lv_aload hc.1 hc.2.1 hd hl k
theorem r_istore_n {k : Fin 4} {a : Nat} (hd : decode i.2.1 pc = .ok (.istore_n k, 1)) (hk : (k : Nat) = a) (hn : a < i.2.2.1) : j_ok G tm i pc (j_so 0 a (pc + 1)) :=
  j_ok_so1 rfl fun v hv x H locs cells slots Q ls rest lv hc hl k => by obtain ⟨z, rfl⟩ := j_kd0 hv; exact lv_istore_n hc.1 hc.2.1 hd hk hl hn rfl k
theorem r_istore {a : Nat} (hd : decode i.2.1 pc = .ok (.istore a, 2)) (hn : a < i.2.2.1) : j_ok G tm i pc (j_so 0 a (pc + 2)) :=
  j_ok_so1 rfl fun v hv x H locs cells slots Q ls rest lv hc hl k => by obtain ⟨z, rfl⟩ := j_kd0 hv; exact lv_istore hc.1 hc.2.1 hd hl hn rfl k
theorem r_lstore_n {k : Fin 4} {a : Nat} (hd : decode i.2.1 pc = .ok (.lstore_n k, 1)) (hk : (k : Nat) = a) (hn : a + 1 < i.2.2.1) : j_ok G tm i pc (j_so 1 a (pc + 1)) :=
  j_ok_so2 fun z x H locs cells slots Q ls rest lv hc hl k => lv_lstore_n hc.1 hc.2.1 hd hk hl hn rfl k
theorem r_lstore {a : Nat} (hd : decode i.2.1 pc = .ok (.lstore a, 2)) (hn : a + 1 < i.2.2.1) : j_ok G tm i pc (j_so 1 a (pc + 2)) :=
  j_ok_so2 fun z x H locs cells slots Q ls rest lv hc hl k => lv_lstore hc.1 hc.2.1 hd hl hn rfl k
theorem r_astore_n {k : Fin 4} {a : Nat} (hd : decode i.2.1 pc = .ok (.astore_n k, 1)) (hk : (k : Nat) = a) (hn : a < i.2.2.1) : j_ok G tm i pc (j_so 2 a (pc + 1)) :=
  j_ok_so1 rfl fun v hv x H locs cells slots Q ls rest lv hc hl k => by
    rcases j_kd2 hv with rfl | ⟨z, rfl⟩
    · exact lv_astore_nN hc.1 hc.2.1 hd hk hl hn rfl k
    · exact lv_astore_n hc.1 hc.2.1 hd hk hl hn rfl k
theorem r_astore {a : Nat} (hd : decode i.2.1 pc = .ok (.astore a, 2)) (hn : a < i.2.2.1) : j_ok G tm i pc (j_so 2 a (pc + 2)) :=
  j_ok_so1 rfl fun v hv x H locs cells slots Q ls rest lv hc hl k => by
    rcases j_kd2 hv with rfl | ⟨z, rfl⟩
    · exact lv_astoreN hc.1 hc.2.1 hd hl hn rfl k
    · exact lv_astore hc.1 hc.2.1 hd hl hn rfl k
end RWS
/-! returns -/
def j_kr (t : Nat) (v : Value) : Bool := match t, v with
  | 0, .int _ => true
  | 1, .long _ => true
  | 2, .ref _ => true
  | 2, .null => true
  | 3, .int x => (x == 0) || (x == 1)
  | _, _ => false
def j_rt (t : Nat) : j_S := fun _ st _ => match st with
  | [v] => bif j_kr t v then some (.inr (.inl (some v))) else none
  | _ => none
def j_rv : j_S := fun _ st _ => match st with
  | [] => some (.inr (.inl none))
  | _ => none
section RETS
variable {G : j_G} {tm : Nat → MethodName × Cond} {i : j_I} {pc : Nat}
theorem r_return (hd : decode i.2.1 pc = .ok (.return_, 1)) (hr : i.2.2.2.2.1 = none) : j_ok G tm i pc j_rv := by
  intro lc st mem act ha
  unfold j_rv at ha
  split at ha
  next =>
    cases ha
    intro x H locs cells slots ls Qc free hc hq hf
    obtain ⟨hx, hb, -, -, -, -, -, -, hret, hlk, -⟩ := hc
    exact W.mono (fun t => j_MQ.of) (W.vret hx hb (hret.trans hr) hq hf hd hlk)
  next => cases ha
theorem j_rt_inv {t : Nat} {lc : j_L} {st : List Value} {mem : j_M} {act : j_A} (ha : j_rt t lc st mem = some act) : ∃ v, st = [v] ∧ j_kr t v = true ∧ act = .inr (.inl (some v)) := by
  unfold j_rt at ha
  split at ha
  next v =>
    cases hv : j_kr t v with
    | false => simp [hv] at ha
    | true =>
      simp only [hv, cond_true, Option.some.injEq] at ha
      exact ⟨v, rfl, hv, ha.symm⟩
  next => cases ha
theorem r_ireturn (hd : decode i.2.1 pc = .ok (.ireturn, 1)) (hr : i.2.2.2.2.1 = some .int) : j_ok G tm i pc (j_rt 0) := by
  intro lc st mem act ha
  obtain ⟨v, rfl, hv, rfl⟩ := j_rt_inv ha
  cases v <;> first | (simp [j_kr] at hv; done) | skip
  rename_i y
  intro x H locs cells slots ls Qc free hc hq hf
  obtain ⟨hx, hb, -, -, -, -, -, -, hret, hlk, -⟩ := hc
  exact W.mono (fun t => j_MQ.of) (W.iret (v := y) hx hb (hret.trans hr) hq hf hd hlk)
theorem r_lreturn (hd : decode i.2.1 pc = .ok (.lreturn, 1)) (hr : i.2.2.2.2.1 = some .long) : j_ok G tm i pc (j_rt 1) := by
  intro lc st mem act ha
  obtain ⟨v, rfl, hv, rfl⟩ := j_rt_inv ha
  cases v <;> first | (simp [j_kr] at hv; done) | skip
  rename_i y
  intro x H locs cells slots ls Qc free hc hq hf
  obtain ⟨hx, hb, -, -, -, -, -, -, hret, hlk, -⟩ := hc
  exact W.mono (fun t => j_MQ.of) (W.lret (v := y) hx hb (hret.trans hr) hq hf hd hlk)
theorem r_areturn {rt : FieldType} (hd : decode i.2.1 pc = .ok (.areturn, 1)) (hr : i.2.2.2.2.1 = some rt) (hrt : (∃ n, rt = .object n) ∨ ∃ t, rt = .array t) : j_ok G tm i pc (j_rt 2) := by
  intro lc st mem act ha
  obtain ⟨v, rfl, hv, rfl⟩ := j_rt_inv ha
  have hv2 : rn G v = .null ∨ ∃ a, rn G v = .ref a := by cases v <;> first | (simp [j_kr] at hv; done) | exact Or.inl rfl | exact Or.inr ⟨_, rfl⟩
  intro x H locs cells slots ls Qc free hc hq hf
  obtain ⟨hx, hb, -, -, -, -, -, -, hret, hlk, -⟩ := hc
  exact W.mono (fun t => j_MQ.of) (W.aret (v := rn G v) hx hb (hret.trans hr) hrt hv2 hq hf hd hlk)
theorem r_zreturn (hd : decode i.2.1 pc = .ok (.ireturn, 1)) (hr : i.2.2.2.2.1 = some .boolean) : j_ok G tm i pc (j_rt 3) := by
  intro lc st mem act ha
  obtain ⟨v, rfl, hv, rfl⟩ := j_rt_inv ha
  cases v <;> first | (simp [j_kr] at hv; done) | skip
  rename_i y
  have hn : narrow .boolean (.int y) = .int y := by
    simp only [j_kr, Bool.or_eq_true, beq_iff_eq] at hv
    rcases hv with rfl | rfl <;> rfl
  intro x H locs cells slots ls Qc free hc hq hf
  obtain ⟨hx, hb, -, -, -, -, -, -, hret, hlk, -⟩ := hc
  exact W.mono (fun t => j_MQ.of) (W.zret (v := y) hx hb (hret.trans hr) hn hq hf hd hlk)
end RETS
