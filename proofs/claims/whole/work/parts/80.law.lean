set_option maxRecDepth 100000 in
theorem xchkw_0 : ((bk_L_law.drop 0).take 3).all (fun q => xchkL 172 q.1 q.2) = true := by decide +kernel
set_option maxRecDepth 100000 in
theorem xchkw_3 : ((bk_L_law.drop 3).take 2).all (fun q => xchkL 172 q.1 q.2) = true := by decide +kernel
set_option maxRecDepth 100000 in
theorem xchkw_5 : ((bk_L_law.drop 5).take 2).all (fun q => xchkL 172 q.1 q.2) = true := by decide +kernel
set_option maxRecDepth 100000 in
theorem xchkw_7 : ((bk_L_law.drop 7).take 1).all (fun q => xchkL 172 q.1 q.2) = true := by decide +kernel
set_option maxRecDepth 100000 in
theorem xchkw_8 : ((bk_L_law.drop 8).take 1).all (fun q => xchkL 172 q.1 q.2) = true := by decide +kernel
set_option maxRecDepth 100000 in
theorem xchkw_9 : ((bk_L_law.drop 9).take 3).all (fun q => xchkL 172 q.1 q.2) = true := by decide +kernel
set_option maxRecDepth 100000 in
theorem xchkw_12 : ((bk_L_law.drop 12).take 5).all (fun q => xchkL 172 q.1 q.2) = true := by decide +kernel
set_option maxRecDepth 100000 in
theorem xchkw_17 : ((bk_L_law.drop 17).take 3).all (fun q => xchkL 172 q.1 q.2) = true := by decide +kernel
set_option maxRecDepth 100000 in
theorem xchkw_20 : ((bk_L_law.drop 20).take 2).all (fun q => xchkL 172 q.1 q.2) = true := by decide +kernel
set_option maxRecDepth 100000 in
theorem xchkw_22 : ((bk_L_law.drop 22).take 3).all (fun q => xchkL 172 q.1 q.2) = true := by decide +kernel
set_option maxRecDepth 100000 in
theorem xchkw_25 : ((bk_L_law.drop 25).take 2).all (fun q => xchkL 172 q.1 q.2) = true := by decide +kernel
set_option maxRecDepth 100000 in
theorem xchkw_27 : ((bk_L_law.drop 27).take 1).all (fun q => xchkL 172 q.1 q.2) = true := by decide +kernel
set_option maxRecDepth 100000 in
theorem xchkw_28 : ((bk_L_law.drop 28).take 1).all (fun q => xchkL 172 q.1 q.2) = true := by decide +kernel
set_option maxRecDepth 100000 in
theorem xchkw_29 : ((bk_L_law.drop 29).take 1).all (fun q => xchkL 172 q.1 q.2) = true := by decide +kernel
set_option maxRecDepth 100000 in
theorem xchkw_30 : ((bk_L_law.drop 30).take 1).all (fun q => xchkL 172 q.1 q.2) = true := by decide +kernel
set_option maxRecDepth 100000 in
theorem xchkw_31 : ((bk_L_law.drop 31).take 1).all (fun q => xchkL 172 q.1 q.2) = true := by decide +kernel
set_option maxRecDepth 100000 in
theorem xchkw_32 : ((bk_L_law.drop 32).take 2).all (fun q => xchkL 172 q.1 q.2) = true := by decide +kernel
set_option maxRecDepth 100000 in
theorem xchkw_34 : ((bk_L_law.drop 34).take 5).all (fun q => xchkL 172 q.1 q.2) = true := by decide +kernel
set_option maxRecDepth 100000 in
theorem xchkw_39 : ((bk_L_law.drop 39).take 2).all (fun q => xchkL 172 q.1 q.2) = true := by decide +kernel
set_option maxRecDepth 100000 in
theorem xchkw_41 : ((bk_L_law.drop 41).take 4).all (fun q => xchkL 172 q.1 q.2) = true := by decide +kernel
theorem xall_step {α : Type} {f : α → Bool} {l : List α} (a n : Nat) (h : ((l.drop a).take n).all f = true) (h2 : (l.drop (a + n)).all f = true) : (l.drop a).all f = true := by
  rw [← List.take_append_drop n (l.drop a), List.all_append, h, List.drop_drop, h2]
  rfl
theorem xchk_law : xchk xLaw = true := (xall_step 0 3 xchkw_0 (xall_step 3 2 xchkw_3 (xall_step 5 2 xchkw_5 (xall_step 7 1 xchkw_7 (xall_step 8 1 xchkw_8 (xall_step 9 3 xchkw_9 (xall_step 12 5 xchkw_12 (xall_step 17 3 xchkw_17 (xall_step 20 2 xchkw_20 (xall_step 22 3 xchkw_22 (xall_step 25 2 xchkw_25 (xall_step 27 1 xchkw_27 (xall_step 28 1 xchkw_28 (xall_step 29 1 xchkw_29 (xall_step 30 1 xchkw_30 (xall_step 31 1 xchkw_31 (xall_step 32 2 xchkw_32 (xall_step 34 5 xchkw_34 (xall_step 39 2 xchkw_39 (xall_step 41 4 xchkw_41 (by rfl)))))))))))))))))))))
