/-! WHAT IS LEFT: the law's run in the small machine -/
theorem law_runs : LawRuns := by
  sorry
