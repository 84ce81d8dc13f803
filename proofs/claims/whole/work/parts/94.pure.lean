/-! 94 what is left of the law, proved -/
theorem law_pure : LawPure := fun b L xs hL => law_pure0 b L xs hL
