/-! the law's run in the small machine -/
theorem law_runs : LawRuns := law_all
