/-! THE CLAIM OUT OF A RUN OF THE SMALL MACHINE (own text; lw_ names as the skeleton has them) -/
/-- the small machine's cells at the start: the script, the two arrays that are read, a class object -/
def m_0 (L : Nat) (xs : Nat → Int32) : j_M := (4, 0, fun i => match i with
  | 0 => some (.inl (0, L, .inl xs))
  | 1 => some (.inl (0, 3, .inl (fun j => ([4, 8, 16] : List Int32).getD j 0)))
  | 2 => some (.inl (a_Obj, 0, .inr (.inr (.inr (.inr (fun _ => none))))))
  | _ => none)
/-- what is left to be shown, in the small machine alone: on every script the law runs to its end, answers 1, and makes no more than the room has -/
def LawRuns : Prop := ∀ (L : Nat) (xs : Nat → Int32), L ≤ 3072 → ∃ mo : j_M, j_lv 40 (.inl (some (.int 1))) mo 0 (j_en 8 [.ref 0]) [] (m_0 L xs) ∧ mo.1 ≤ 601028 ∧ mo.2.1 ≤ 7293034
