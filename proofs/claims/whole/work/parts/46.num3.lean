/-! ===== NUMBERS, 3 (own work): the ways of rows of one column, by the kernel ===== -/
def fsL : List (List Nat) := [[], [1], [1, 1], [2, 3, 2], [7, 14, 14, 7], [42, 105, 135, 105, 42], [429, 1287, 2002, 2002, 1287, 429], [7436, 26026, 47320, 56784, 47320, 26026, 7436], [218348, 873392, 1813968, 2519400, 2519400, 1813968, 873392, 218348], [10850216, 48825972, 113927268, 179028564, 206571420, 179028564, 113927268, 48825972, 10850216], [911835460, 4559177300, 11800223600, 20650391300, 26845508690, 26845508690, 20650391300, 11800223600, 4559177300, 911835460], [129534272700, 712438499850, 2024825210100, 3899663367600, 5620103088600, 6322615974675, 5620103088600, 3899663367600, 2024825210100, 712438499850, 129534272700], [31095744852375, 186574469114250, 577492404401250, 1212734049242625, 1914843235646250, 2382916026582000, 2382916026582000, 1914843235646250, 1212734049242625, 577492404401250, 186574469114250, 31095744852375], [12611311859677500, 81973527087903750, 274433112424721250, 623711619147093750, 1069219918537875000, 1454139089211510000, 1607206361760090000, 1454139089211510000, 1069219918537875000, 623711619147093750, 274433112424721250, 81973527087903750, 12611311859677500]]
def BB : Nat := 2 ^ 256
noncomputable def evL (n : Nat) (P : Nat) : List Nat := (List.range n).map (fun c => P / BB ^ (2 ^ (n - 1 - c)) % BB)
theorem ev_1 : evL 1 (lvP BB 1 0) = fsL.getD 1 [] := by decide +kernel
theorem ev_2 : evL 2 (lvP BB 2 1) = fsL.getD 2 [] := by decide +kernel
theorem ev_3 : evL 3 (lvP BB 3 2) = fsL.getD 3 [] := by decide +kernel
theorem ev_4 : evL 4 (lvP BB 4 3) = fsL.getD 4 [] := by decide +kernel
theorem ev_5 : evL 5 (lvP BB 5 4) = fsL.getD 5 [] := by decide +kernel
theorem ev_6 : evL 6 (lvP BB 6 5) = fsL.getD 6 [] := by decide +kernel
theorem ev_7 : evL 7 (lvP BB 7 6) = fsL.getD 7 [] := by decide +kernel
theorem ev_8 : evL 8 (lvP BB 8 7) = fsL.getD 8 [] := by decide +kernel
theorem ev_9 : evL 9 (lvP BB 9 8) = fsL.getD 9 [] := by decide +kernel
theorem ev_10 : evL 10 (lvP BB 10 9) = fsL.getD 10 [] := by decide +kernel
theorem ev_11 : evL 11 (lvP BB 11 10) = fsL.getD 11 [] := by decide +kernel
theorem ev_12 : evL 12 (lvP BB 12 11) = fsL.getD 12 [] := by decide +kernel
theorem ev_13 : evL 13 (lvP BB 13 12) = fsL.getD 13 [] := by decide +kernel
