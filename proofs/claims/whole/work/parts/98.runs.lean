theorem law_runs : LawRuns := by
  sorry
