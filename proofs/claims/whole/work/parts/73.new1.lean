/-! ===== THE START, 1 (own work): new objects ===== -/
abbrev XS : Type := Nat × (Nat → Int32)
def v00 (s : XS) : XW := (0, fun _ => 0, fun _ _ => 0, fun _ _ => none, fun _ _ => 0, fun _ _ => 0, fun _ _ => none, s)
def tN (w : XW) (h : Nat) : XW := xpI (xpF (xpR (xmA w 121) h 0 (some (h + 1))) h 1 (iI 1)) (h + 1) 12 (iI 1)
theorem n_T {w : XW} {h : Nat} (hT : isT h) (hx : xn w = h + 1) : xm T_new 0 [.ref h] w = some (.null, tN w h) := by
  have e121 : (iI 121).toNatClampNeg = 121 := rfl
  have e12 : (iI 12).toNatClampNeg = 12 := rfl
  rw [e_T_new, q_T_new_0, e121, e12, hx]
  have r1 : xRF (xpF (xpR (xmA w 121) h 0 (some (h + 1))) h 1 (iI 1)) h 0 = some (h + 1) := by
    show va_up (xRF (xmA w 121)) h (va_up (xRF (xmA w 121) h) 0 (some (h + 1))) h 0 = _
    rw [va_up_self, va_up_self]
  have g1 : xnok w 1 (iI 121) (1, 121) = true := by
    unfold xnok
    rw [hx]
    rcases hT with rfl | rfl | rfl | rfl | rfl | rfl | rfl | rfl | rfl <;> decide
  have g2 : xoa (xpF (xpR (xmA w 121) h 0 (some (h + 1))) h 1 (iI 1)) (h + 1) 1 (iI 12) = true := by rw [T_oa hT]; decide
  exact s_g g1 (s_g (T_ok hT) (s_g (T_ok hT) (s_g (T_ok hT) (s_o r1 (s_g g2 rfl)))))
def dN (w : XW) : XW := xpF (xpF (xpR (xmA w 121) 4 0 (some 5)) 4 1 (iI 0)) 4 2 (iI 1)
theorem n_D {w : XW} (hx : xn w = 5) : xm D_new 0 [.ref 4] w = some (.null, dN w) := by
  have e121 : (iI 121).toNatClampNeg = 121 := rfl
  rw [e_D_new, q_D_new_0, e121, hx]
  have g1 : xnok w 1 (iI 121) (1, 121) = true := by
    unfold xnok
    rw [hx]; decide
  exact s_g g1 (s_g rfl (s_g rfl (s_g rfl rfl)))
def oN (w : XW) : XW := xpR (xmA w 100) 13 0 (some 14)
theorem n_O {w : XW} (hx : xn w = 14) : xm O_new 0 [.ref 13] w = some (.null, oN w) := by
  have e100 : (iI 100).toNatClampNeg = 100 := rfl
  rw [e_O_new, q_O_new_0, e100, hx]
  have g1 : xnok w 1 (iI 100) (1, 100) = true := by
    unfold xnok
    rw [hx]; decide
  exact s_g g1 (s_g rfl rfl)
def gN (w : XW) : XW := xpR (xmA (xpR (xmA w 481) 15 0 (some 16)) 6) 15 1 (some 17)
theorem n_G {w : XW} (hx : xn w = 16) : xm G_new 0 [.ref 15] w = some (.null, gN w) := by
  have e1 : (iI 481).toNatClampNeg = 481 := rfl
  have e2 : (iI 6).toNatClampNeg = 6 := rfl
  have x1 : xn (xpR (xmA w 481) 15 0 (some 16)) = 17 := by
    show xn w + 1 = 17
    rw [hx]
  rw [e_G_new, q_G_new_0, e1, e2, hx, x1]
  have g1 : xnok w 3 (iI 481) (2, 487) = true := by
    unfold xnok
    rw [hx]; decide
  have g2 : xnok (xpR (xmA w 481) 15 0 (some 16)) 2 (iI 6) (2 - 1, 487 - 481) = true := by
    unfold xnok
    rw [x1]; decide
  exact s_g g1 (s_g rfl (s_g g2 (s_g rfl rfl)))
def kN (w : XW) : XW := xpR (xmA (xpR (xmA (xpR (xmA w 11) 9 0 (some 10)) 11) 9 1 (some 11)) 11) 9 2 (some 12)
theorem n_K {w : XW} (hx : xn w = 10) : xm K_new 0 [.ref 9] w = some (.null, kN w) := by
  have e1 : (iI 11).toNatClampNeg = 11 := rfl
  have x1 : xn (xpR (xmA w 11) 9 0 (some 10)) = 11 := by
    show xn w + 1 = 11
    rw [hx]
  have x2 : xn (xpR (xmA (xpR (xmA w 11) 9 0 (some 10)) 11) 9 1 (some 11)) = 12 := by
    show xn w + 1 + 1 = 12
    rw [hx]
  rw [e_K_new, q_K_new_0, e1, hx, x1, x2]
  have g1 : xnok w 1 (iI 11) (3, 33) = true := by
    unfold xnok
    rw [hx]; decide
  have g2 : xnok (xpR (xmA w 11) 9 0 (some 10)) 1 (iI 11) (3 - 1, 33 - 11) = true := by
    unfold xnok
    rw [x1]; decide
  have g3 : xnok (xpR (xmA (xpR (xmA w 11) 9 0 (some 10)) 11) 9 1 (some 11)) 1 (iI 11) (3 - 1 - 1, 33 - 11 - 11) = true := by
    unfold xnok
    rw [x2]; decide
  exact s_g g1 (s_g rfl (s_g g2 (s_g rfl (s_g g3 (s_g rfl rfl)))))
def uN (w : XW) : XW := xpR (kN (xmO (xpR (xmA (xpR (xmA w 2048) 6 0 (some 7)) 11) 6 1 (some 8)))) 6 2 (some 9)
theorem n_U {w : XW} (hx : xn w = 7) : xm U_new 0 [.ref 6] w = some (.null, uN w) := by
  have e1 : (iI 11).toNatClampNeg = 11 := rfl
  have e2 : (iI 2048).toNatClampNeg = 2048 := rfl
  have x1 : xn (xpR (xmA w 2048) 6 0 (some 7)) = 8 := by
    show xn w + 1 = 8
    rw [hx]
  have x2 : xn (xpR (xmA (xpR (xmA w 2048) 6 0 (some 7)) 11) 6 1 (some 8)) = 9 := by
    show xn w + 1 + 1 = 9
    rw [hx]
  have x3 : xn (xmO (xpR (xmA (xpR (xmA w 2048) 6 0 (some 7)) 11) 6 1 (some 8))) = 10 := by
    show xn w + 1 + 1 + 1 = 10
    rw [hx]
  rw [e_U_new, q_U_new_0, e1, e2, hx, x1, x2]
  have g1 : xnok w 3 (iI 2048) (6, 2098) = true := by
    unfold xnok
    rw [hx]; decide
  have g2 : xnok (xpR (xmA w 2048) 6 0 (some 7)) 2 (iI 11) (6 - 1, 2098 - 2048) = true := by
    unfold xnok
    rw [x1]; decide
  exact s_g g1 (s_g rfl (s_g g2 (s_g rfl (s_g rfl (s_g rfl (s_g rfl (s_V (n_K x3) (s_g rfl rfl))))))))
/-! the bench -/
def v0 (s : XS) : XW := xmO (v00 s)
def v1 (s : XS) : XW := xpR (xmA (v0 s) 8) 0 0 (some 1)
def v2 (s : XS) : XW := xpR (tN (xmO (v1 s)) 2) 0 1 (some 2)
def v3 (s : XS) : XW := xpR (dN (xmO (v2 s))) 0 2 (some 4)
def v4 (s : XS) : XW := xpR (uN (xmO (v3 s))) 0 3 (some 6)
def v5 (s : XS) : XW := xpR (oN (xmO (v4 s))) 0 4 (some 13)
def v6 (s : XS) : XW := xpR (gN (xmO (v5 s))) 0 5 (some 15)
def vt (s : XS) : Nat → XW
  | 0 => v6 s
  | k + 1 => xpA (tN (xmO (vt s k)) (18 + 2 * k)) 1 k (some (18 + 2 * k))
theorem xn_vt (s : XS) : ∀ k, xn (vt s k) = 18 + 2 * k := by
  intro k
  induction k with
  | zero => rfl
  | succ k ih =>
    show xn (vt s k) + 1 + 1 = 18 + 2 * (k + 1)
    rw [ih]; omega
theorem n_B0 (s : XS) : xr B_new 0 0 [some (.ref 0), none] [] (33, 3934) (v0 s) = xr B_new 0 70 [some (.ref 0), some (.int (iI ((0 : Nat) : Int)))] [] (16, 984) (vt s 0) := by
  refine (xr_eq k_B_new_0 _ _ _ _ _).trans ?_
  show xbV (xm T_new 0 [.ref 2] (xmO (v1 s))) (fun w' => xexec (xr B_new 0) xm 6 B_new 0 [.aload_n 0, .new 20, .dup, .invokespecial 22, .putfield 23, .aload_n 0, .new 27, .dup, .invokespecial 29, .putfield 30, .aload_n 0, .new 34, .dup, .invokespecial 36, .putfield 37, .aload_n 0, .new 41, .dup, .invokespecial 43, .putfield 44, .iconst 0, .istore_n 1] 24 [some (.ref 0), none] [] (30, 3803) (xpR w' 0 1 (some 2))) = _
  refine s_V (n_T (Or.inl rfl) rfl) ?_
  show xbV (xm D_new 0 [.ref 4] (xmO (v2 s))) (fun w' => xexec (xr B_new 0) xm 6 B_new 0 [.aload_n 0, .new 27, .dup, .invokespecial 29, .putfield 30, .aload_n 0, .new 34, .dup, .invokespecial 36, .putfield 37, .aload_n 0, .new 41, .dup, .invokespecial 43, .putfield 44, .iconst 0, .istore_n 1] 35 [some (.ref 0), none] [] (28, 3679) (xpR w' 0 2 (some 4))) = _
  refine s_V (n_D rfl) ?_
  show xbV (xm U_new 0 [.ref 6] (xmO (v3 s))) (fun w' => xexec (xr B_new 0) xm 6 B_new 0 [.aload_n 0, .new 34, .dup, .invokespecial 36, .putfield 37, .aload_n 0, .new 41, .dup, .invokespecial 43, .putfield 44, .iconst 0, .istore_n 1] 46 [some (.ref 0), none] [] (21, 1578) (xpR w' 0 3 (some 6))) = _
  refine s_V (n_U rfl) ?_
  show xbV (xm O_new 0 [.ref 13] (xmO (v4 s))) (fun w' => xexec (xr B_new 0) xm 6 B_new 0 [.aload_n 0, .new 41, .dup, .invokespecial 43, .putfield 44, .iconst 0, .istore_n 1] 57 [some (.ref 0), none] [] (19, 1473) (xpR w' 0 4 (some 13))) = _
  refine s_V (n_O rfl) ?_
  show xbV (xm G_new 0 [.ref 15] (xmO (v5 s))) (fun w' => xexec (xr B_new 0) xm 6 B_new 0 [.iconst 0, .istore_n 1] 68 [some (.ref 0), none] [] (16, 984) (xpR w' 0 5 (some 15))) = _
  refine s_V (n_G rfl) ?_
  rfl
