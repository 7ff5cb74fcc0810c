/-! ===== THE LAW, 2 (own work): the run of the law ===== -/
