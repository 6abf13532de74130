/-! words wanted later: none -/
