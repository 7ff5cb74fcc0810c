/-! ===== NUMBERS, 8 (own work): the same for n 9 and 10, in pieces ===== -/
def chkR (n a k : Nat) : Bool := (List.range k).all (fun q => chkW n (a + q))
theorem chk_9 : chkA 9 = true := by decide +kernel
theorem chk_10_0 : chkR 10 0 128 = true := by decide +kernel
theorem chk_10_1 : chkR 10 128 128 = true := by decide +kernel
theorem chk_10_2 : chkR 10 256 128 = true := by decide +kernel
theorem chk_10_3 : chkR 10 384 128 = true := by decide +kernel
theorem chk_10_4 : chkR 10 512 128 = true := by decide +kernel
theorem chk_10_5 : chkR 10 640 128 = true := by decide +kernel
theorem chk_10_6 : chkR 10 768 128 = true := by decide +kernel
theorem chk_10_7 : chkR 10 896 127 = true := by decide +kernel
theorem chkR_at {n a k q : Nat} (h : chkR n a k = true) (h1 : a ≤ q) (h2 : q < a + k) : chkW n q = true := by
  have := List.all_eq_true.mp h (q - a) (List.mem_range.mpr (by omega))
  rwa [show a + (q - a) = q by omega] at this
theorem chkA_at {n q : Nat} (h : chkA n = true) (h2 : q < 2 ^ n - 1) : chkW n q = true := List.all_eq_true.mp h q (List.mem_range.mpr h2)
theorem chk_all {n a : Nat} (h1 : 1 ≤ n) (h2 : n ≤ 10) (ha : a < 2 ^ n - 1) : chkW n a = true := by
  match n, h1, h2 with
  | 1, _, _ => exact chkA_at chk_1 ha
  | 2, _, _ => exact chkA_at chk_2 ha
  | 3, _, _ => exact chkA_at chk_3 ha
  | 4, _, _ => exact chkA_at chk_4 ha
  | 5, _, _ => exact chkA_at chk_5 ha
  | 6, _, _ => exact chkA_at chk_6 ha
  | 7, _, _ => exact chkA_at chk_7 ha
  | 8, _, _ => exact chkA_at chk_8 ha
  | 9, _, _ => exact chkA_at chk_9 ha
  | 10, _, _ =>
    have ha' : a < 1023 := ha
    rcases Nat.lt_or_ge a 128 with q | q
    · exact chkR_at chk_10_0 (by omega) (by omega)
    rcases Nat.lt_or_ge a 256 with q | q
    · exact chkR_at chk_10_1 (by omega) (by omega)
    rcases Nat.lt_or_ge a 384 with q | q
    · exact chkR_at chk_10_2 (by omega) (by omega)
    rcases Nat.lt_or_ge a 512 with q | q
    · exact chkR_at chk_10_3 (by omega) (by omega)
    rcases Nat.lt_or_ge a 640 with q | q
    · exact chkR_at chk_10_4 (by omega) (by omega)
    rcases Nat.lt_or_ge a 768 with q | q
    · exact chkR_at chk_10_5 (by omega) (by omega)
    rcases Nat.lt_or_ge a 896 with q | q
    · exact chkR_at chk_10_6 (by omega) (by omega)
    exact chkR_at chk_10_7 (by omega) (by omega)
  | n + 11, _, h2 => omega
