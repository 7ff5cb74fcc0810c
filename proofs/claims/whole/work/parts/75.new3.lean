/-! ===== THE START, 3 (own work): what holds at the start ===== -/
def eqC (w w' : XW) : Prop := xn w = xn w' ∧ xIF w = xIF w' ∧ xRF w = xRF w' ∧ xIA w = xIA w' ∧ xRA w = xRA w'
def hiR (w : XW) : Prop := ∀ a k, 16 ≤ k → xRF w a k = none
section XNEW3
variable {w w' : XW}
theorem eq_pR {a k : Nat} {v : Option Nat} (h : eqC w w') : eqC (xpR w a k v) (xpR w' a k v) := by
  refine ⟨h.1, h.2.1, ?_, h.2.2.2.1, h.2.2.2.2⟩
  show va_up (xRF w) a (va_up (xRF w a) k v) = va_up (xRF w') a (va_up (xRF w' a) k v)
  rw [h.2.2.1]
theorem eq_pF {a k : Nat} {v : Int32} (h : eqC w w') : eqC (xpF w a k v) (xpF w' a k v) := by
  refine ⟨h.1, ?_, h.2.2.1, h.2.2.2.1, h.2.2.2.2⟩
  show va_up (xIF w) a (va_up (xIF w a) k v) = va_up (xIF w') a (va_up (xIF w' a) k v)
  rw [h.2.1]
theorem eq_pI {a k : Nat} {v : Int32} (h : eqC w w') : eqC (xpI w a k v) (xpI w' a k v) := by
  refine ⟨h.1, h.2.1, h.2.2.1, ?_, h.2.2.2.2⟩
  show va_up (xIA w) a (va_up (xIA w a) k v) = va_up (xIA w') a (va_up (xIA w' a) k v)
  rw [h.2.2.2.1]
theorem eq_pA {a k : Nat} {v : Option Nat} (h : eqC w w') : eqC (xpA w a k v) (xpA w' a k v) := by
  refine ⟨h.1, h.2.1, h.2.2.1, h.2.2.2.1, ?_⟩
  show va_up (xRA w) a (va_up (xRA w a) k v) = va_up (xRA w') a (va_up (xRA w' a) k v)
  rw [h.2.2.2.2]
theorem eq_mA {N : Nat} (h : eqC w w') : eqC (xmA w N) (xmA w' N) := by
  refine ⟨?_, h.2.1, h.2.2.1, ?_, ?_⟩
  · show xn w + 1 = xn w' + 1
    rw [h.1]
  · show va_up (xIA w) (xn w) (fun _ => 0) = va_up (xIA w') (xn w') (fun _ => 0)
    rw [h.1, h.2.2.2.1]
  · show va_up (xRA w) (xn w) (fun _ => none) = va_up (xRA w') (xn w') (fun _ => none)
    rw [h.1, h.2.2.2.2]
theorem eq_mO (h : eqC w w') : eqC (xmO w) (xmO w') := by
  refine ⟨?_, ?_, ?_, h.2.2.2.1, h.2.2.2.2⟩
  · show xn w + 1 = xn w' + 1
    rw [h.1]
  · show va_up (xIF w) (xn w) (fun _ => 0) = va_up (xIF w') (xn w') (fun _ => 0)
    rw [h.1, h.2.1]
  · show va_up (xRF w) (xn w) (fun _ => none) = va_up (xRF w') (xn w') (fun _ => none)
    rw [h.1, h.2.2.1]
theorem eq_tN {h : Nat} (e : eqC w w') : eqC (tN w h) (tN w' h) := eq_pI (eq_pF (eq_pR (eq_mA e)))
theorem eq_dN (e : eqC w w') : eqC (dN w) (dN w') := eq_pF (eq_pF (eq_pR (eq_mA e)))
theorem eq_oN (e : eqC w w') : eqC (oN w) (oN w') := eq_pR (eq_mA e)
theorem eq_gN (e : eqC w w') : eqC (gN w) (gN w') := eq_pR (eq_mA (eq_pR (eq_mA e)))
theorem eq_kN (e : eqC w w') : eqC (kN w) (kN w') := eq_pR (eq_mA (eq_pR (eq_mA (eq_pR (eq_mA e)))))
theorem eq_uN (e : eqC w w') : eqC (uN w) (uN w') := eq_pR (eq_kN (eq_mO (eq_pR (eq_mA (eq_pR (eq_mA e))))))
theorem hi_pR {a k : Nat} {v : Option Nat} (h : hiR w) (hk : k < 16) : hiR (xpR w a k v) := fun b j hj => by
  show va_up (xRF w) a (va_up (xRF w a) k v) b j = none
  by_cases e : b = a
  · rw [e, va_up_self, va_up_ne _ _ (by omega)]; exact h a j hj
  · rw [va_up_ne _ _ e]; exact h b j hj
theorem hi_mO (h : hiR w) : hiR (xmO w) := fun b j hj => by
  show va_up (xRF w) (xn w) (fun _ => none) b j = none
  by_cases e : b = xn w
  · rw [e, va_up_self]
  · rw [va_up_ne _ _ e]; exact h b j hj
theorem hi_mA {N : Nat} (h : hiR w) : hiR (xmA w N) := h
theorem hi_pF {a k : Nat} {v : Int32} (h : hiR w) : hiR (xpF w a k v) := h
theorem hi_pI {a k : Nat} {v : Int32} (h : hiR w) : hiR (xpI w a k v) := h
theorem hi_pA {a k : Nat} {v : Option Nat} (h : hiR w) : hiR (xpA w a k v) := h
theorem hi_tN {h : Nat} (e : hiR w) : hiR (tN w h) := hi_pI (hi_pF (hi_pR (hi_mA e) (by decide)))
theorem hi_dN (e : hiR w) : hiR (dN w) := hi_pF (hi_pF (hi_pR (hi_mA e) (by decide)))
theorem hi_oN (e : hiR w) : hiR (oN w) := hi_pR (hi_mA e) (by decide)
theorem hi_gN (e : hiR w) : hiR (gN w) := hi_pR (hi_mA (hi_pR (hi_mA e) (by decide))) (by decide)
theorem hi_kN (e : hiR w) : hiR (kN w) := hi_pR (hi_mA (hi_pR (hi_mA (hi_pR (hi_mA e) (by decide))) (by decide))) (by decide)
theorem hi_uN (e : hiR w) : hiR (uN w) := hi_pR (hi_kN (hi_mO (hi_pR (hi_mA (hi_pR (hi_mA e) (by decide))) (by decide)))) (by decide)
end XNEW3
def s0X : XS := (0, fun _ => 0)
theorem eq_v6 (s : XS) : eqC (v6 s) (v6 s0X) := by
  have e0 : eqC (v00 s) (v00 s0X) := ⟨rfl, rfl, rfl, rfl, rfl⟩
  have e1 : eqC (v1 s) (v1 s0X) := eq_pR (eq_mA (eq_mO e0))
  have e2 : eqC (v2 s) (v2 s0X) := eq_pR (eq_tN (eq_mO e1))
  have e3 : eqC (v3 s) (v3 s0X) := eq_pR (eq_dN (eq_mO e2))
  have e4 : eqC (v4 s) (v4 s0X) := eq_pR (eq_uN (eq_mO e3))
  have e5 : eqC (v5 s) (v5 s0X) := eq_pR (eq_oN (eq_mO e4))
  exact eq_pR (eq_gN (eq_mO e5))
theorem eq_vt (s : XS) : ∀ k, eqC (vt s k) (vt s0X k) := by
  intro k
  induction k with
  | zero => exact eq_v6 s
  | succ k ih => exact eq_pA (eq_tN (eq_mO ih))
theorem eq_m10 (s : XS) : eqC (m10 s) (m10 s0X) := by
  have e0 : eqC (m0 s) (m0 s0X) := eq_mO (eq_vt s 8)
  have e1 : eqC (m1 s) (m1 s0X) := eq_pR (eq_mA e0)
  have e2 : eqC (m2 s) (m2 s0X) := eq_pR (eq_mA e1)
  have e3 : eqC (m3 s) (m3 s0X) := eq_pF e2
  have e4 : eqC (m4 s) (m4 s0X) := eq_pR (eq_mA e3)
  have e5 : eqC (m5 s) (m5 s0X) := eq_pR (eq_mA e4)
  have e6 : eqC (m6 s) (m6 s0X) := eq_pR (eq_mA e5)
  have e7 : eqC (m7 s) (m7 s0X) := eq_pF e6
  have e8 : eqC (m8 s) (m8 s0X) := eq_pR (eq_mA e7)
  have e9 : eqC (m9 s) (m9 s0X) := eq_pR (eq_mA e8)
  exact eq_pR (eq_mA e9)
theorem eq_mt (s : XS) : ∀ k, eqC (mt s k) (mt s0X k) := by
  intro k
  induction k with
  | zero => exact eq_m10 s
  | succ k ih => exact eq_pI (eq_pI ih)
theorem hi_vt (s : XS) : ∀ k, hiR (vt s k) := by
  intro k
  induction k with
  | zero =>
    have e0 : hiR (v00 s) := fun _ _ _ => rfl
    have e1 : hiR (v1 s) := hi_pR (hi_mA (hi_mO e0)) (by decide)
    have e2 : hiR (v2 s) := hi_pR (hi_tN (hi_mO e1)) (by decide)
    have e3 : hiR (v3 s) := hi_pR (hi_dN (hi_mO e2)) (by decide)
    have e4 : hiR (v4 s) := hi_pR (hi_uN (hi_mO e3)) (by decide)
    have e5 : hiR (v5 s) := hi_pR (hi_oN (hi_mO e4)) (by decide)
    exact hi_pR (hi_gN (hi_mO e5)) (by decide)
  | succ k ih => exact hi_pA (hi_tN (hi_mO ih))
theorem hi_mt (s : XS) : ∀ k, hiR (mt s k) := by
  intro k
  induction k with
  | zero =>
    have e0 : hiR (m0 s) := hi_mO (hi_vt s 8)
    have e1 : hiR (m1 s) := hi_pR (hi_mA e0) (by decide)
    have e2 : hiR (m2 s) := hi_pR (hi_mA e1) (by decide)
    have e3 : hiR (m3 s) := hi_pF e2
    have e4 : hiR (m4 s) := hi_pR (hi_mA e3) (by decide)
    have e5 : hiR (m5 s) := hi_pR (hi_mA e4) (by decide)
    have e6 : hiR (m6 s) := hi_pR (hi_mA e5) (by decide)
    have e7 : hiR (m7 s) := hi_pF e6
    have e8 : hiR (m8 s) := hi_pR (hi_mA e7) (by decide)
    have e9 : hiR (m9 s) := hi_pR (hi_mA e8) (by decide)
    exact hi_pR (hi_mA e9) (by decide)
  | succ k ih => exact hi_pI (hi_pI ih)
theorem k_n : xn (mt s0X 8) = 43 := by decide +kernel
theorem k_R : ∀ a, a < 43 → ∀ k, k < 16 → xRF (mt s0X 8) a k = xR0 a k := by decide +kernel
theorem k_RA : ∀ p, p < 8 → xRA (mt s0X 8) 1 p = some (18 + 2 * p) := by decide +kernel
theorem k_T : ∀ p, p < 8 → xIF (mt s0X 8) (18 + 2 * p) 1 = iI 1 ∧ ∀ k, k < 121 → xIA (mt s0X 8) (18 + 2 * p + 1) k = if k = 12 then iI 1 else iI 0 := by decide +kernel
theorem k_2 : ∀ k, k < 11 → xIA (mt s0X 8) 3 k = iI 0 ∧ xIA (mt s0X 8) 3 (k * 11) = iI 0 := by decide +kernel
theorem k_D : xIF (mt s0X 8) 4 1 = iI 0 ∧ xIF (mt s0X 8) 4 2 = iI 1 ∧ ∀ k, k < 121 → xIA (mt s0X 8) 5 k = iI 0 := by decide +kernel
theorem k_U : xIA (mt s0X 8) 10 0 = iI 0 ∧ ∀ k, k < 11 → xIA (mt s0X 8) 8 k = iI 0 := by decide +kernel
theorem k_O : xIF (mt s0X 8) 13 1 = iI 0 ∧ ∀ k, k < 100 → xIA (mt s0X 8) 14 k = iI 0 := by decide +kernel
theorem k_G : ∀ k, k < 6 → xIA (mt s0X 8) 17 k = iI 0 := by decide +kernel
theorem k_M : xIF (mt s0X 8) 34 3 = iI 0 ∧ xIF (mt s0X 8) 34 4 = iI 1 ∧ xIF (mt s0X 8) 34 10 = iI (-1) ∧ (∀ k, k < 121 → xIA (mt s0X 8) 37 k = iI 0) ∧ ∀ p, p < 8 → xIA (mt s0X 8) 35 p = iI 1 ∧ xIA (mt s0X 8) 36 (p * 100) = iI 1 := by decide +kernel
theorem R0_hi : ∀ a, a < 43 → (xR0L.getD a []).length ≤ 16 := by decide
def C1 (i j : Nat) : Int := if 1 ≤ i ∧ 1 ≤ j then 1 else 0
theorem asm_1 : asm 1 C1 := by
  unfold asm C1
  refine ⟨fun j hj => ?_, fun i hi => ?_, fun j hj => ?_, fun i hi => ?_, fun i j hi hj => ?_, fun i j hi hj => ?_⟩
  · rw [if_neg (by omega)]
  · rw [if_neg (by omega)]
  · rcases (show j = 0 ∨ j = 1 by omega) with rfl | rfl <;> decide
  · rcases (show i = 0 ∨ i = 1 by omega) with rfl | rfl <;> decide
  · rcases (show i = 0 by omega) with rfl
    rcases (show j = 0 ∨ j = 1 by omega) with rfl | rfl <;> decide
  · rcases (show j = 0 by omega) with rfl
    rcases (show i = 0 ∨ i = 1 by omega) with rfl | rfl <;> decide
def A1 : AS := (fun _ => 1, fun _ => C1, 0, 1, fun _ => 0)
theorem st_G (s : XS) : XG (mt s 8) := by
  have e := eq_mt s 8
  refine ⟨by rw [e.1, k_n]; decide, fun a k ha => ?_, fun p hp => by rw [e.2.2.2.2]; exact k_RA p hp⟩
  rcases Nat.lt_or_ge k 16 with h | h
  · rw [e.2.2.1]; exact k_R a ha k h
  · rw [hi_mt s 8 a k h]
    unfold xR0
    have := R0_hi a ha
    generalize xR0L.getD a [] = l at this
    rw [List.getD_eq_getElem?_getD, List.getElem?_eq_none (by omega)]; rfl
theorem st_IC (s : XS) : IC (mt s 8) A1 := by
  have e := eq_mt s 8
  have hG := st_G s
  refine ⟨hG, fun p hp => ⟨⟨isT_p hp, hG, (show 1 ≤ 1 ∧ 1 ≤ 10 by decide), ?_, asm_1, fun i j hi hj => ?_⟩, fun k hk => ?_⟩, fun k hk => ?_, hG, by decide, by decide, ?_, ?_, fun k hk => ⟨?_, (show i32 0 by decide)⟩⟩
  · rw [e.2.1]; exact (k_T p hp).1
  · have hi' : i ≤ 1 := hi
    have hj' : j ≤ 1 := hj
    rw [e.2.2.2.1, (k_T p hp).2 _ (by omega)]
    show _ = iI (if 1 ≤ i ∧ 1 ≤ j then 1 else 0)
    by_cases q : i = 1 ∧ j = 1
    · rw [if_pos (by omega), if_pos (by omega)]
    · rw [if_neg (by omega), if_neg (by omega)]
  · rw [e.2.2.2.1, (k_T p hp).2 k (by omega), (k_T p hp).2 (k * 11) (by omega), if_neg (by omega), if_neg (by omega)]
    exact ⟨rfl, rfl⟩
  · rw [e.2.2.2.1]; exact k_2 k (by omega)
  · rw [e.2.1]; exact k_D.1
  · rw [e.2.1]; exact k_D.2.1
  · rw [e.2.2.2.1]; exact k_D.2.2 k hk
theorem st_nb (s : XS) : nbI (mt s 8) := by
  have e := eq_mt s 8
  refine ⟨fun k h1 h2 => Or.inl ?_, ?_⟩
  · rw [e.2.2.2.1]; exact k_U.2 k (by omega)
  · rw [e.2.2.2.1]; exact k_U.1
theorem st_lp (s : XS) : lpI (mt s 8) 0 := by
  have e := eq_mt s 8
  refine ⟨0, Nat.le_refl _, ?_, fun k hk => ⟨0, ?_, Nat.le_refl _⟩⟩
  · rw [e.2.1]; exact k_O.1
  · rw [e.2.2.2.1]; exact k_O.2 k hk
theorem st_jn (s : XS) : jnI (mt s 8) := by
  have e := eq_mt s 8
  intro n h1 h2
  left
  rw [e.2.2.2.1]; exact k_G n (by omega)
theorem st_IM (s : XS) : IM (mt s 8) A1 := by
  have e := eq_mt s 8
  obtain ⟨m1, m2, m3, m4, m5⟩ := k_M
  refine ⟨st_G s, fun p hp => ⟨(show 1 ≤ 1 ∧ 1 ≤ 10 by decide), asm_1, ?_, fun i j hi hj => ?_⟩, by decide, by decide, ?_, ?_, fun k hk => ⟨?_, (show i32 0 by decide)⟩⟩
  · rw [e.2.2.2.1]; exact (m5 p hp).1
  · have hi' : i < 1 := hi
    have hj' : j < 1 := hj
    rcases (show i = 0 by omega) with rfl
    rcases (show j = 0 by omega) with rfl
    rw [e.2.2.2.1, show (p * 10 + 0) * 10 + 0 = p * 100 by omega, (m5 p hp).2]; rfl
  · rw [e.2.1]; exact m1
  · rw [e.2.1]; exact m2
  · rw [e.2.2.2.1]; exact m4 k hk
theorem st_wI (s : XS) : wI (mt s 8) := by
  have e := eq_mt s 8
  left
  rw [e.2.1]; exact k_M.2.2.1
