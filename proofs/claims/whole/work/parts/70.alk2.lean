/-! ===== ALIKE, 2 (own work): alike of the class ===== -/
