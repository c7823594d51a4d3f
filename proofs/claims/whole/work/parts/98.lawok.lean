theorem law_ok : LawOK := by sorry
