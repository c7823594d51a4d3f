/-! the law holds (to come) -/
theorem law_ok : LawOK := sorry
