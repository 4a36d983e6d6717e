/-! A SMALL MACHINE: cells by number, frames of values, one instruction a function (own text) -/
abbrev j_X : Type := Program × Launch × Env × Room × State × MethodId × Array Value × List Frame × Method × Code
abbrev jp (x : j_X) : Program := x.1
abbrev jl (x : j_X) : Launch := x.2.1
abbrev je (x : j_X) : Env := x.2.2.1
abbrev jR (x : j_X) : Room := x.2.2.2.1
abbrev js (x : j_X) : State := x.2.2.2.2.1
abbrev jm (x : j_X) : MethodId := x.2.2.2.2.2.1
abbrev ja (x : j_X) : Array Value := x.2.2.2.2.2.2.1
abbrev jb (x : j_X) : List Frame := x.2.2.2.2.2.2.2.1
abbrev jt (x : j_X) : Method := x.2.2.2.2.2.2.2.2.1
abbrev jc (x : j_X) : Code := x.2.2.2.2.2.2.2.2.2
abbrev j_W (x : j_X) (H : Heap) (locs : List Loc) (cells slots : Nat) (Q : State → Prop) (g : JFrame) : Prop :=
  W (jp x) (jl x) (je x) (jR x) (js x) (jm x) (ja x) (jb x) (jt x) (jc x) H locs cells slots Q g
/-- cells of the small machine: an array (number of its type, length, contents) or an object (number of its class, fields); a reference is the cell's number -/
abbrev j_C : Type := (Nat × vp_A) ⊕ (Nat × List Value)
/-- how many cells, how many slots have been made; the cells -/
abbrev j_M : Type := Nat × Nat × (Nat → Option j_C)
abbrev j_L : Type := List (Option Value)
/-- how a method ends: returned, or threw (number of the class, cell) -/
abbrev j_O : Type := Option Value ⊕ (Nat × Nat)
/-- what an instruction does: goes on, returns, calls (method, arguments, what stays on the stack), throws -/
abbrev j_A : Type := (Nat × j_L × List Value × j_M) ⊕ (Option Value ⊕ ((Nat × List Value × List Value) ⊕ Nat))
abbrev j_S : Type := j_L → List Value → j_M → Option j_A
/-- what the machine's addresses are: classes, array classes, the four old cells, the first heap, the script -/
abbrev j_G : Type := va_G × (Nat → ClassId) × (Nat → Nat) × Heap × Nat × (Nat → Int32)
def adr (G : j_G) (i : Nat) : Nat := bif Nat.blt i 4 then G.2.2.1 i else G.2.2.2.1.size + (i - 4)
def rn (G : j_G) (v : Value) : Value := match v with
  | .ref i => .ref (adr G i)
  | v => v
def rnq (G : j_G) (a : vp_A) : vp_A := match a with
  | (n, .inr (.inr (.inr (.inr f)))) => (n, .inr (.inr (.inr (.inr (fun j => (f j).map (adr G))))))
  | a => a
def rnc (G : j_G) (c : j_C) : va_E := match c with
  | .inl (k, a) => .inl (G.2.1 k, rnq G a)
  | .inr (k, fs) => .inr (k, fs.map (rn G))
/-- locals by their places -/
def j_lg : j_L → Nat → Option Value
  | [], _ => none
  | x :: _, 0 => x
  | _ :: r, i + 1 => j_lg r i
def j_wd (x : Option Value) : Bool := match x with
  | some v => v.category == 2
  | none => false
def j_s1 : j_L → Nat → Value → j_L
  | [], _, _ => []
  | _ :: r, 0, v => some v :: r
  | x :: r, i + 1, v => (bif (i == 0) && j_wd x then none else x) :: j_s1 r i v
def j_s2 : j_L → Nat → Value → j_L
  | [], _, _ => []
  | _ :: r, 0, v => some v :: (match r with | [] => [] | _ :: r' => none :: r')
  | x :: r, i + 1, v => (bif (i == 0) && j_wd x then none else x) :: j_s2 r i v
def j_en : Nat → List Value → j_L
  | n, [] => List.replicate n none
  | n, v :: r => bif v.category == 2 then some v :: none :: j_en (n - 2) r else some v :: j_en (n - 1) r
def j_prs (G : j_G) : Nat → j_L → List (Nat × Value)
  | _, [] => []
  | k, some v :: r => (k, rn G v) :: j_prs G (k + 1) r
  | k, none :: r => j_prs G (k + 1) r
/-- the machine's locals are those of the small one -/
def j_H (G : j_G) (ls : Array Slot) (nL : Nat) (lc : j_L) : Prop := lv_has ls nL (j_prs G 0 lc)
theorem j_prs_mem {G : j_G} : ∀ (lc : j_L) (k i : Nat) (v : Value), j_lg lc i = some v → (k + i, rn G v) ∈ j_prs G k lc
  | [], k, i, v, h => by simp [j_lg] at h
  | x :: r, k, 0, v, h => by
    simp only [j_lg] at h
    subst h
    exact List.mem_cons_self
  | x :: r, k, i + 1, v, h => by
    have h1 := j_prs_mem (G := G) r (k + 1) i v (by simpa [j_lg] using h)
    have e : k + 1 + i = k + (i + 1) := by omega
    rw [e] at h1
    cases x with
    | none => exact h1
    | some w => exact List.mem_cons_of_mem _ h1
theorem j_prs_inv {G : j_G} : ∀ (lc : j_L) (k : Nat) (q : Nat × Value), q ∈ j_prs G k lc → ∃ i v, q = (k + i, rn G v) ∧ j_lg lc i = some v
  | [], k, q, h => by simp [j_prs] at h
  | none :: r, k, q, h => by
    obtain ⟨i, v, rfl, h1⟩ := j_prs_inv (G := G) r (k + 1) q h
    exact ⟨i + 1, v, by rw [show k + 1 + i = k + (i + 1) by omega], h1⟩
  | some w :: r, k, q, h => by
    rcases List.mem_cons.mp h with rfl | h
    · exact ⟨0, w, rfl, rfl⟩
    · obtain ⟨i, v, rfl, h1⟩ := j_prs_inv (G := G) r (k + 1) q h
      exact ⟨i + 1, v, by rw [show k + 1 + i = k + (i + 1) by omega], h1⟩
theorem rn_cat (G : j_G) (v : Value) : (rn G v).category = v.category := by cases v <;> rfl
theorem j_s1_lg : ∀ (lc : j_L) (i : Nat) (v : Value) (j : Nat) (w : Value), j_lg (j_s1 lc i v) j = some w → (j = i ∧ w = v) ∨ (j ≠ i ∧ j_lg lc j = some w ∧ ¬ (j + 1 = i ∧ w.category = 2))
  | [], i, v, j, w, h => by simp [j_s1, j_lg] at h
  | x :: r, 0, v, 0, w, h => by
    simp only [j_s1, j_lg, Option.some.injEq] at h
    exact Or.inl ⟨rfl, h.symm⟩
  | x :: r, 0, v, j + 1, w, h => by
    simp only [j_s1, j_lg] at h
    exact Or.inr ⟨by omega, h, by omega⟩
  | x :: r, i + 1, v, 0, w, h => by
    refine Or.inr ⟨by omega, ?_, ?_⟩
    · simp only [j_s1, j_lg] at h ⊢
      cases hc : ((i == 0) && j_wd x) with
      | true => rw [hc] at h; simp at h
      | false => rw [hc] at h; exact h
    · rintro ⟨h1, h2⟩
      simp only [j_s1, j_lg] at h
      have hi : i = 0 := by omega
      subst hi
      cases x with
      | none => simp [j_wd] at h
      | some u =>
        by_cases hu : u.category = 2
        · simp [j_wd, hu] at h
        · have hb : (u.category == 2) = false := by simpa using hu
          have : u = w := by simpa [j_wd, hb] using h
          subst this
          exact hu h2
  | x :: r, i + 1, v, j + 1, w, h => by
    have h1 : j_lg (j_s1 r i v) j = some w := by simpa only [j_s1, j_lg] using h
    rcases j_s1_lg r i v j w h1 with ⟨rfl, rfl⟩ | ⟨a, b, c⟩
    · exact Or.inl ⟨rfl, rfl⟩
    · exact Or.inr ⟨by omega, by simpa only [j_lg] using b, fun ⟨z1, z2⟩ => c ⟨by omega, z2⟩⟩
theorem j_s2_lg : ∀ (lc : j_L) (i : Nat) (v : Value) (j : Nat) (w : Value), j_lg (j_s2 lc i v) j = some w → (j = i ∧ w = v) ∨ (j ≠ i ∧ j ≠ i + 1 ∧ j_lg lc j = some w ∧ ¬ (j + 1 = i ∧ w.category = 2))
  | [], i, v, j, w, h => by simp [j_s2, j_lg] at h
  | x :: r, 0, v, 0, w, h => by
    simp only [j_s2, j_lg, Option.some.injEq] at h
    exact Or.inl ⟨rfl, h.symm⟩
  | [x], 0, v, j + 1, w, h => by
    simp [j_s2, j_lg] at h
  | x :: y :: r, 0, v, 1, w, h => by
    simp [j_s2, j_lg] at h
  | x :: y :: r, 0, v, j + 2, w, h => by
    simp only [j_s2, j_lg] at h
    exact Or.inr ⟨by omega, by omega, h, by omega⟩
  | x :: r, i + 1, v, 0, w, h => by
    refine Or.inr ⟨by omega, by omega, ?_, ?_⟩
    · simp only [j_s2, j_lg] at h ⊢
      cases hc : ((i == 0) && j_wd x) with
      | true => rw [hc] at h; simp at h
      | false => rw [hc] at h; exact h
    · rintro ⟨h1, h2⟩
      simp only [j_s2, j_lg] at h
      have hi : i = 0 := by omega
      subst hi
      cases x with
      | none => simp [j_wd] at h
      | some u =>
        by_cases hu : u.category = 2
        · simp [j_wd, hu] at h
        · have hb : (u.category == 2) = false := by simpa using hu
          have : u = w := by simpa [j_wd, hb] using h
          subst this
          exact hu h2
  | x :: r, i + 1, v, j + 1, w, h => by
    have h1 : j_lg (j_s2 r i v) j = some w := by simpa only [j_s2, j_lg] using h
    rcases j_s2_lg r i v j w h1 with ⟨rfl, rfl⟩ | ⟨a, b, c, d⟩
    · exact Or.inl ⟨rfl, rfl⟩
    · exact Or.inr ⟨by omega, by omega, by simpa only [j_lg] using c, fun ⟨z1, z2⟩ => d ⟨by omega, z2⟩⟩
theorem j_H.at {G : j_G} {ls : Array Slot} {nL : Nat} {lc : j_L} (h : j_H G ls nL lc) {i : Nat} {v : Value} (hv : j_lg lc i = some v) : ls[i]? = some (.val (rn G v)) := by
  have h1 := h.2.2 _ (j_prs_mem (G := G) lc 0 i v hv)
  rw [Nat.zero_add] at h1
  exact h1
theorem j_H.st1 {G : j_G} {ls : Array Slot} {nL i : Nat} {lc : j_L} {v : Value} (h : lv_has ls nL ((i, rn G v) :: (j_prs G 0 lc).filter (fun q => !(q.1 == i) && !(q.1 + 1 == i && q.2.category == 2)))) : j_H G ls nL (j_s1 lc i v) := by
  refine ⟨h.1, h.2.1, fun q hq => ?_⟩
  obtain ⟨j, w, rfl, hj⟩ := j_prs_inv _ _ _ hq
  rcases j_s1_lg lc i v j w hj with ⟨rfl, rfl⟩ | ⟨a, b, c⟩
  · rw [Nat.zero_add]
    exact h.2.2 _ List.mem_cons_self
  · refine h.2.2 _ (List.mem_cons_of_mem _ (List.mem_filter.mpr ⟨j_prs_mem lc 0 j w b, ?_⟩))
    have c' : ¬ (j + 1 = i ∧ (rn G w).category = 2) := by rw [rn_cat]; exact c
    simp only [Nat.zero_add, Bool.and_eq_true, Bool.not_eq_true', beq_eq_false_iff_ne, ne_eq, Bool.and_eq_false_iff]
    refine ⟨a, ?_⟩
    by_cases z : j + 1 = i
    · exact Or.inr fun z2 => c' ⟨z, z2⟩
    · exact Or.inl z
theorem j_H.st2 {G : j_G} {ls : Array Slot} {nL i : Nat} {lc : j_L} {v : Value} (h : lv_has ls nL ((i, rn G v) :: (j_prs G 0 lc).filter (fun q => !(q.1 == i) && (!(q.1 == i + 1) && !(q.1 + 1 == i && q.2.category == 2))))) : j_H G ls nL (j_s2 lc i v) := by
  refine ⟨h.1, h.2.1, fun q hq => ?_⟩
  obtain ⟨j, w, rfl, hj⟩ := j_prs_inv _ _ _ hq
  rcases j_s2_lg lc i v j w hj with ⟨rfl, rfl⟩ | ⟨a, a2, b, c⟩
  · rw [Nat.zero_add]
    exact h.2.2 _ List.mem_cons_self
  · refine h.2.2 _ (List.mem_cons_of_mem _ (List.mem_filter.mpr ⟨j_prs_mem lc 0 j w b, ?_⟩))
    have c' : ¬ (j + 1 = i ∧ (rn G w).category = 2) := by rw [rn_cat]; exact c
    simp only [Nat.zero_add, Bool.and_eq_true, Bool.not_eq_true', beq_eq_false_iff_ne, ne_eq, Bool.and_eq_false_iff]
    refine ⟨a, a2, ?_⟩
    by_cases z : j + 1 = i
    · exact Or.inr fun z2 => c' ⟨z, z2⟩
    · exact Or.inl z
