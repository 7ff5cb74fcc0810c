/-! ===== ALIKE, 1 (own work): codes of joinings ===== -/
