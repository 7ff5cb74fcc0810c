/-! ===== THE START, 2 (own work): the world at the start ===== -/
theorem up_n {α : Type} (f : Nat → α) (a : Nat) (v : α) {b : Nat} (h : b ≠ a) : va_up f a v b = f b := va_up_ne f v h
theorem rf_vt (s : XS) : ∀ k, k ≤ 8 → xRF (vt s k) 0 0 = some 1 := by
  intro k
  induction k with
  | zero => intro _; rfl
  | succ k ih =>
    intro hk
    show va_up (va_up (xRF (vt s k)) (xn (vt s k)) (fun _ => none)) (18 + 2 * k) (va_up (va_up (xRF (vt s k)) (xn (vt s k)) (fun _ => none) (18 + 2 * k)) 0 (some (18 + 2 * k + 1))) 0 0 = some 1
    rw [up_n _ _ _ (by omega), up_n _ _ _ (by rw [xn_vt]; omega)]
    exact ih (by omega)
theorem n_B1 (s : XS) {k : Nat} (hk : k < 8) : xr B_new 0 70 [some (.ref 0), some (.int (iI (k : Int)))] [] (16 - 2 * k, 984 - 123 * k) (vt s k) = xr B_new 0 70 [some (.ref 0), some (.int (iI ((k + 1 : Nat) : Int)))] [] (16 - 2 * (k + 1), 984 - 123 * (k + 1)) (vt s (k + 1)) := by
  have hT : isT (18 + 2 * k) := isT_p hk
  have x1 := xn_vt s k
  have x2 : xn (xmO (vt s k)) = 18 + 2 * k + 1 := by
    show xn (vt s k) + 1 = _
    rw [x1]
  rw [q_B_new_70, x1, iI_natk k (by omega), iI_add]
  have c5 : xcls (18 + 2 * k) == 5 := T_ok hT
  have g1 : (xcls (18 + 2 * k) == 5 && Nat.blt 0 (16 - 2 * k, 984 - 123 * k).1 && Nat.ble 2 (16 - 2 * k, 984 - 123 * k).2) = true := by
    rw [c5]
    have e1 : Nat.blt 0 (16 - 2 * k, 984 - 123 * k).1 = true := Nat.ble_eq_true_of_le (show 1 ≤ 16 - 2 * k by omega)
    have e2 : Nat.ble 2 (16 - 2 * k, 984 - 123 * k).2 = true := Nat.ble_eq_true_of_le (show 2 ≤ 984 - 123 * k by omega)
    rw [e1, e2]; rfl
  have g2 : (Nat.ble 1 ((16 - 2 * k, 984 - 123 * k).1 - 1, (16 - 2 * k, 984 - 123 * k).2 - 2).1 && Nat.ble 121 ((16 - 2 * k, 984 - 123 * k).1 - 1, (16 - 2 * k, 984 - 123 * k).2 - 2).2 && true) = true := by
    have e1 : Nat.ble 1 ((16 - 2 * k, 984 - 123 * k).1 - 1, (16 - 2 * k, 984 - 123 * k).2 - 2).1 = true := Nat.ble_eq_true_of_le (show 1 ≤ 16 - 2 * k - 1 by omega)
    have e2 : Nat.ble 121 ((16 - 2 * k, 984 - 123 * k).1 - 1, (16 - 2 * k, 984 - 123 * k).2 - 2).2 = true := Nat.ble_eq_true_of_le (show 121 ≤ 984 - 123 * k - 2 by omega)
    rw [e1, e2]; rfl
  have g3 : (xoa (tN (xmO (vt s k)) (18 + 2 * k)) 1 4 (iI (k : Int)) && xok (18 + 2 * k) xTab) = true := by
    have e1 : xoa (tN (xmO (vt s k)) (18 + 2 * k)) 1 4 (iI (k : Int)) = true := xin_t (n := 8) (by omega)
    have e2 : xok (18 + 2 * k) xTab = true := T_ok hT
    rw [e1, e2]; rfl
  refine s_lef (by omega) (s_g rfl (s_o (rf_vt s k (by omega)) (s_g g1 (s_g (T_rv hT) (s_g g2 (s_V (n_T hT x2) (s_g g3 ?_)))))))
  have eb : (16 - 2 * k, 984 - 123 * k).1 - 1 - 1 = 16 - 2 * (k + 1) := by
    show 16 - 2 * k - 1 - 1 = _
    omega
  have eb2 : (16 - 2 * k, 984 - 123 * k).2 - 2 - 121 = 984 - 123 * (k + 1) := by
    show 984 - 123 * k - 2 - 121 = _
    omega
  show xr B_new 0 70 [_, _] [] ((16 - 2 * k, 984 - 123 * k).1 - 1 - 1, (16 - 2 * k, 984 - 123 * k).2 - 2 - 121) _ = _
  rw [eb, eb2]
  rfl
theorem n_B (s : XS) : xm B_new 0 [.ref 0] (v0 s) = some (.null, vt s 8) := by
  rw [e_B_new]
  refine (n_B0 s).trans ((x_up (fun k => xr B_new 0 70 [some (.ref 0), some (.int (iI ((k : Nat) : Int)))] [] (16 - 2 * k, 984 - 123 * k) (vt s k)) (N := 8) (fun k hk => n_B1 s hk) 0 (by omega)).trans ?_)
  show xr B_new 0 70 [some (.ref 0), some (.int (iI ((8 : Nat) : Int)))] [] _ _ = _
  rw [q_B_new_70]
  refine s_let (by decide) ?_
  rw [q_B_new_95]
def m0 (s : XS) : XW := xmO (vt s 8)
def m1 (s : XS) : XW := xpR (xmA (m0 s) 8) 34 1 (some 35)
def m2 (s : XS) : XW := xpR (xmA (m1 s) 800) 34 2 (some 36)
def m3 (s : XS) : XW := xpF (m2 s) 34 4 (iI 1)
def m4 (s : XS) : XW := xpR (xmA (m3 s) 121) 34 5 (some 37)
def m5 (s : XS) : XW := xpR (xmA (m4 s) 100) 34 8 (some 38)
def m6 (s : XS) : XW := xpR (xmA (m5 s) 8192) 34 9 (some 39)
def m7 (s : XS) : XW := xpF (m6 s) 34 10 (iI (-1))
def m8 (s : XS) : XW := xpR (xmA (m7 s) 121) 34 11 (some 40)
def m9 (s : XS) : XW := xpR (xmA (m8 s) 121) 34 12 (some 41)
def m10 (s : XS) : XW := xpR (xmA (m9 s) 121) 34 13 (some 42)
def mt (s : XS) : Nat → XW
  | 0 => m10 s
  | k + 1 => xpI (xpI (mt s k) 35 k (iI 1)) 36 (k * 100) (iI 1)
theorem pM0 (is : List Instr) (b : XB) (w : XW) : xexec (xr M_new 0) xm 7 M_new 0 (.aload_n 0 :: .invokespecial 1 :: is) 0 [some (.ref 34), none] [] b w = xg (Nat.ble (xcat []) 8) (xexec (xr M_new 0) xm 7 M_new 0 is 4 [some (.ref 34), none] [] b w) := rfl
theorem pM1 (is : List Instr) (pc : Nat) (b : XB) (w : XW) : xexec (xr M_new 0) xm 7 M_new 0 (.aload_n 0 :: .bipush 8 :: .newarray .int :: .putfield 9 :: is) pc [some (.ref 34), none] [] b w = xg (xnok w 1 (iI 8) b) (xg (xok 34 7) (xexec (xr M_new 0) xm 7 M_new 0 is (pc + 1 + 2 + 2 + 3) [some (.ref 34), none] [] (b.1 - 1, b.2 - (iI 8).toNatClampNeg) (xpR (xmA w (iI 8).toNatClampNeg) 34 1 (some (xn w))))) := rfl
theorem pM2 (is : List Instr) (pc : Nat) (b : XB) (w : XW) : xexec (xr M_new 0) xm 7 M_new 0 (.aload_n 0 :: .sipush 800 :: .newarray .int :: .putfield 13 :: is) pc [some (.ref 34), none] [] b w = xg (xnok w 1 (iI 800) b) (xg (xok 34 7) (xexec (xr M_new 0) xm 7 M_new 0 is (pc + 1 + 3 + 2 + 3) [some (.ref 34), none] [] (b.1 - 1, b.2 - (iI 800).toNatClampNeg) (xpR (xmA w (iI 800).toNatClampNeg) 34 2 (some (xn w))))) := rfl
theorem pM3 (is : List Instr) (pc : Nat) (b : XB) (w : XW) : xexec (xr M_new 0) xm 7 M_new 0 (.aload_n 0 :: .iconst 1 :: .putfield 16 :: is) pc [some (.ref 34), none] [] b w = xg (xok 34 7) (xexec (xr M_new 0) xm 7 M_new 0 is (pc + 1 + 1 + 3) [some (.ref 34), none] [] b (xpF w 34 4 (iI 1))) := rfl
theorem pM4 (is : List Instr) (pc : Nat) (b : XB) (w : XW) : xexec (xr M_new 0) xm 7 M_new 0 (.aload_n 0 :: .bipush 121 :: .newarray .int :: .putfield 20 :: is) pc [some (.ref 34), none] [] b w = xg (xnok w 1 (iI 121) b) (xg (xok 34 7) (xexec (xr M_new 0) xm 7 M_new 0 is (pc + 1 + 2 + 2 + 3) [some (.ref 34), none] [] (b.1 - 1, b.2 - (iI 121).toNatClampNeg) (xpR (xmA w (iI 121).toNatClampNeg) 34 5 (some (xn w))))) := rfl
theorem pM5 (is : List Instr) (pc : Nat) (b : XB) (w : XW) : xexec (xr M_new 0) xm 7 M_new 0 (.aload_n 0 :: .bipush 100 :: .newarray .boolean :: .putfield 23 :: is) pc [some (.ref 34), none] [] b w = xg (xnok w 2 (iI 100) b) (xg (xok 34 7) (xexec (xr M_new 0) xm 7 M_new 0 is (pc + 1 + 2 + 2 + 3) [some (.ref 34), none] [] (b.1 - 1, b.2 - (iI 100).toNatClampNeg) (xpR (xmA w (iI 100).toNatClampNeg) 34 8 (some (xn w))))) := rfl
theorem pM6 (is : List Instr) (pc : Nat) (b : XB) (w : XW) : xexec (xr M_new 0) xm 7 M_new 0 (.aload_n 0 :: .sipush 8192 :: .newarray .long :: .putfield 27 :: is) pc [some (.ref 34), none] [] b w = xg (xnok w 3 (iI 8192) b) (xg (xok 34 7) (xexec (xr M_new 0) xm 7 M_new 0 is (pc + 1 + 3 + 2 + 3) [some (.ref 34), none] [] (b.1 - 1, b.2 - (iI 8192).toNatClampNeg) (xpR (xmA w (iI 8192).toNatClampNeg) 34 9 (some (xn w))))) := rfl
theorem pM7 (is : List Instr) (pc : Nat) (b : XB) (w : XW) : xexec (xr M_new 0) xm 7 M_new 0 (.aload_n 0 :: .iconst (-1) :: .putfield 31 :: is) pc [some (.ref 34), none] [] b w = xg (xok 34 7) (xexec (xr M_new 0) xm 7 M_new 0 is (pc + 1 + 1 + 3) [some (.ref 34), none] [] b (xpF w 34 10 (iI (-1)))) := rfl
theorem pM8 (is : List Instr) (pc : Nat) (b : XB) (w : XW) : xexec (xr M_new 0) xm 7 M_new 0 (.aload_n 0 :: .bipush 121 :: .newarray .int :: .putfield 34 :: is) pc [some (.ref 34), none] [] b w = xg (xnok w 1 (iI 121) b) (xg (xok 34 7) (xexec (xr M_new 0) xm 7 M_new 0 is (pc + 1 + 2 + 2 + 3) [some (.ref 34), none] [] (b.1 - 1, b.2 - (iI 121).toNatClampNeg) (xpR (xmA w (iI 121).toNatClampNeg) 34 11 (some (xn w))))) := rfl
theorem pM9 (is : List Instr) (pc : Nat) (b : XB) (w : XW) : xexec (xr M_new 0) xm 7 M_new 0 (.aload_n 0 :: .bipush 121 :: .newarray .boolean :: .putfield 37 :: is) pc [some (.ref 34), none] [] b w = xg (xnok w 2 (iI 121) b) (xg (xok 34 7) (xexec (xr M_new 0) xm 7 M_new 0 is (pc + 1 + 2 + 2 + 3) [some (.ref 34), none] [] (b.1 - 1, b.2 - (iI 121).toNatClampNeg) (xpR (xmA w (iI 121).toNatClampNeg) 34 12 (some (xn w))))) := rfl
theorem pM10 (is : List Instr) (pc : Nat) (b : XB) (w : XW) : xexec (xr M_new 0) xm 7 M_new 0 (.aload_n 0 :: .bipush 121 :: .newarray .boolean :: .putfield 40 :: is) pc [some (.ref 34), none] [] b w = xg (xnok w 2 (iI 121) b) (xg (xok 34 7) (xexec (xr M_new 0) xm 7 M_new 0 is (pc + 1 + 2 + 2 + 3) [some (.ref 34), none] [] (b.1 - 1, b.2 - (iI 121).toNatClampNeg) (xpR (xmA w (iI 121).toNatClampNeg) 34 13 (some (xn w))))) := rfl
theorem xn_m0 (s : XS) : xn (m0 s) = 35 := by
  show xn (vt s 8) + 1 = 35
  rw [xn_vt]
theorem xn_m1 (s : XS) : xn (m1 s) = 36 := by
  show xn (m0 s) + 1 = 36
  rw [xn_m0]
theorem xn_m2 (s : XS) : xn (m2 s) = 37 := by
  show xn (m1 s) + 1 = 37
  rw [xn_m1]
theorem n_pF (w : XW) (a k : Nat) (v : Int32) : xn (xpF w a k v) = xn w := rfl
theorem xn_m3 (s : XS) : xn (m3 s) = 37 := by
  unfold m3
  rw [n_pF, xn_m2]
theorem xn_m4 (s : XS) : xn (m4 s) = 38 := by
  show xn (m3 s) + 1 = 38
  rw [xn_m3]
theorem xn_m5 (s : XS) : xn (m5 s) = 39 := by
  show xn (m4 s) + 1 = 39
  rw [xn_m4]
theorem xn_m6 (s : XS) : xn (m6 s) = 40 := by
  show xn (m5 s) + 1 = 40
  rw [xn_m5]
theorem xn_m7 (s : XS) : xn (m7 s) = 40 := by
  unfold m7
  rw [n_pF, xn_m6]
theorem xn_m8 (s : XS) : xn (m8 s) = 41 := by
  show xn (m7 s) + 1 = 41
  rw [xn_m7]
theorem xn_m9 (s : XS) : xn (m9 s) = 42 := by
  show xn (m8 s) + 1 = 42
  rw [xn_m8]
theorem xn_m10 (s : XS) : xn (m10 s) = 43 := by
  show xn (m9 s) + 1 = 43
  rw [xn_m9]
theorem n_M0 (s : XS) : xr M_new 0 0 [some (.ref 34), none] [] (8, 9584) (m0 s) = xr M_new 0 82 [some (.ref 34), some (.int (iI ((0 : Nat) : Int)))] [] (0, 0) (mt s 0) := by
  have e8 : (iI 8).toNatClampNeg = 8 := by decide
  have e800 : (iI 800).toNatClampNeg = 800 := by decide
  have e121 : (iI 121).toNatClampNeg = 121 := by decide
  have e100 : (iI 100).toNatClampNeg = 100 := by decide
  have e8192 : (iI 8192).toNatClampNeg = 8192 := by decide
  refine (xr_eq k_M_new_0 _ _ _ _ _).trans ?_
  refine (pM0 _ _ _).trans (s_g rfl ?_)
  have g0 : xnok (m0 s) 1 (iI 8) (8, 9584) = true := by
    unfold xnok
    rw [xn_m0]; decide
  refine (pM1 _ _ _ _).trans (s_g g0 (s_g rfl ?_))
  rw [e8, xn_m0]
  rw [show xpR (xmA (m0 s) 8) 34 1 (some 35) = m1 s from rfl]
  have g1 : xnok (m1 s) 1 (iI 800) (7, 9576) = true := by
    unfold xnok
    rw [xn_m1]; decide
  refine (pM2 _ _ _ _).trans (s_g g1 (s_g rfl ?_))
  rw [e800, xn_m1]
  rw [show xpR (xmA (m1 s) 800) 34 2 (some 36) = m2 s from rfl]
  refine (pM3 _ _ _ _).trans (s_g rfl ?_)
  rw [show xpF (m2 s) 34 4 (iI 1) = m3 s from rfl]
  have g3 : xnok (m3 s) 1 (iI 121) (6, 8776) = true := by
    unfold xnok
    rw [xn_m3]; decide
  refine (pM4 _ _ _ _).trans (s_g g3 (s_g rfl ?_))
  rw [e121, xn_m3]
  rw [show xpR (xmA (m3 s) 121) 34 5 (some 37) = m4 s from rfl]
  have g4 : xnok (m4 s) 2 (iI 100) (5, 8655) = true := by
    unfold xnok
    rw [xn_m4]; decide
  refine (pM5 _ _ _ _).trans (s_g g4 (s_g rfl ?_))
  rw [e100, xn_m4]
  rw [show xpR (xmA (m4 s) 100) 34 8 (some 38) = m5 s from rfl]
  have g5 : xnok (m5 s) 3 (iI 8192) (4, 8555) = true := by
    unfold xnok
    rw [xn_m5]; decide
  refine (pM6 _ _ _ _).trans (s_g g5 (s_g rfl ?_))
  rw [e8192, xn_m5]
  rw [show xpR (xmA (m5 s) 8192) 34 9 (some 39) = m6 s from rfl]
  refine (pM7 _ _ _ _).trans (s_g rfl ?_)
  rw [show xpF (m6 s) 34 10 (iI (-1)) = m7 s from rfl]
  have g7 : xnok (m7 s) 1 (iI 121) (3, 363) = true := by
    unfold xnok
    rw [xn_m7]; decide
  refine (pM8 _ _ _ _).trans (s_g g7 (s_g rfl ?_))
  rw [e121, xn_m7]
  rw [show xpR (xmA (m7 s) 121) 34 11 (some 40) = m8 s from rfl]
  have g8 : xnok (m8 s) 2 (iI 121) (2, 242) = true := by
    unfold xnok
    rw [xn_m8]; decide
  refine (pM9 _ _ _ _).trans (s_g g8 (s_g rfl ?_))
  rw [e121, xn_m8]
  rw [show xpR (xmA (m8 s) 121) 34 12 (some 41) = m9 s from rfl]
  have g9 : xnok (m9 s) 2 (iI 121) (1, 121) = true := by
    unfold xnok
    rw [xn_m9]; decide
  refine (pM10 _ _ _ _).trans (s_g g9 (s_g rfl ?_))
  rw [e121, xn_m9]
  rw [show xpR (xmA (m9 s) 121) 34 13 (some 42) = m10 s from rfl]
  rfl
theorem rf_mt (s : XS) : ∀ k, xRF (mt s k) = xRF (m10 s) := by
  intro k
  induction k with
  | zero => rfl
  | succ k ih => exact ih
theorem n_M1 (s : XS) {k : Nat} (hk : k < 8) : xr M_new 0 82 [some (.ref 34), some (.int (iI (k : Int)))] [] (0, 0) (mt s k) = xr M_new 0 82 [some (.ref 34), some (.int (iI ((k + 1 : Nat) : Int)))] [] (0, 0) (mt s (k + 1)) := by
  have r1 : xRF (mt s k) 34 1 = some 35 := by rw [rf_mt]; rfl
  have r2 : xRF (xpI (mt s k) 35 k (iI 1)) 34 2 = some 36 := by
    show xRF (mt s k) 34 2 = some 36
    rw [rf_mt]; rfl
  rw [q_M_new_82, iI_natk k (by omega), iI_mul, iI_mul, iI_add]
  refine s_lef (by omega) (s_g rfl (s_o r1 (s_g (xin_t (n := 8) (by omega)) (s_g rfl (s_o r2 (s_g (xin_t (n := 800) (by omega)) ?_))))))
  rw [iI_nat (by omega), show ((k : Int) * 10 * 10).toNat = k * 100 by omega]
  rfl
theorem n_M (s : XS) : xm M_new 0 [.ref 34] (m0 s) = some (.null, mt s 8) := by
  rw [e_M_new]
  refine (n_M0 s).trans ((x_up (fun k => xr M_new 0 82 [some (.ref 34), some (.int (iI ((k : Nat) : Int)))] [] (0, 0) (mt s k)) (N := 8) (fun k hk => n_M1 s hk) 0 (by omega)).trans ?_)
  show xr M_new 0 82 [some (.ref 34), some (.int (iI ((8 : Nat) : Int)))] [] (0, 0) (mt s 8) = _
  rw [q_M_new_82]
  refine s_let (by decide) ?_
  rw [q_M_new_114]
