/-! ===== NUMBERS, 16 (own work): sums over all rows; the reference's number ===== -/
