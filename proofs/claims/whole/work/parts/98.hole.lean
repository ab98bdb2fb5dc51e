theorem law_pure : LawPure := sorry
