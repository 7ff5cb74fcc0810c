/-! ===== THE REFERENCE, 9 (own work): turn and move as calls ===== -/
theorem asm_turn1 {n r c par : Nat} {D : Nat → Nat → Int} (h : asm n D) (hh : 1 ≤ r ∧ r < n ∧ 1 ≤ c ∧ c < n) : asm n (turn1 D r c par) := by
  unfold turn1
  split
  · split
    · rename_i h1; exact asm_up h hh h1
    · split
      · rename_i h1; exact asm_up h hh h1
      · exact h
  · exact h
theorem asm_tJ {n par r : Nat} {D : Nat → Nat → Int} (h : asm n D) (hr : 1 ≤ r ∧ r < n) : ∀ c, c < n → asm n (tJ D par r c) := by
  intro c
  induction c with
  | zero => intro _; exact h
  | succ c ih => intro hc; exact asm_turn1 (ih (by omega)) ⟨hr.1, hr.2, by omega, hc⟩
theorem asm_tI {n par : Nat} {D : Nat → Nat → Int} (h : asm n D) : ∀ r, r < n → asm n (tI n D par r) := by
  intro r
  induction r with
  | zero => intro _; exact h
  | succ r ih => intro hr; exact asm_tJ (ih (by omega)) ⟨by omega, hr⟩ (n - 1) (by omega)
theorem asm_turn {n par : Nat} {D : Nat → Nat → Int} (h : asm n D) (hn : 1 ≤ n) : asm n (turnC n D par) := asm_tI h (n - 1) (by omega)
theorem dA_mov (n : Nat) (C : Nat → Nat → Int) (m i j : Nat) : dA (movC n C m) i j = movE n C m i j := by
  unfold dA
  show (movC n C m i (j + 1) + (sumF (fun c => movE n C m i c) j + movE n C m i j)) - movC n C m i (j + 1) - ((movC n C m i j + sumF (fun c => movE n C m i c) j) - movC n C m i j) = _
  omega
theorem xln_late {w : XW} {a : Nat} (h : 43 ≤ a) : xln w a = w.2.1 a := by
  unfold xln
  rw [List.getElem?_eq_none (show xlnL.length ≤ a from h)]
theorem xak_late {a : Nat} (h : 43 ≤ a) : xak a = 1 := by
  unfold xak
  rw [List.getD_eq_getElem?_getD, List.getElem?_eq_none (show xakL.length ≤ a from h)]; rfl
theorem xlok_late {a N : Nat} (h : 43 ≤ a) : xlok a N = true := by
  unfold xlok
  rw [List.getElem?_eq_none (show xlnL.length ≤ a from h)]
theorem xoa_late {w : XW} {a N : Nat} {x : Int32} (h : 43 ≤ a) (hN : w.2.1 a = N) (hx : xin x N = true) : xoa w a 1 x = true := by
  unfold xoa
  rw [xak_late h, xln_late h, hN, hx]; rfl
theorem ln_mA (w : XW) (N : Nat) : (xmA w N).2.1 (xn w) = N := by
  show va_up w.2.1 (xn w) N (xn w) = N
  exact va_up_self _ _ _
theorem xnok_late {w : XW} {z : Int} {b : XB} (hG : XG w) (hz : 0 ≤ z ∧ z ≤ 1000) (h1 : 0 < b.1) (h2 : z.toNat ≤ b.2) : xnok w 1 (iI z) b = true := by
  unfold xnok
  rw [xak_late hG.1, xlok_late hG.1, xin_t (n := 65536) (by omega), iI_nat (by omega)]
  have e1 : Nat.blt 0 b.1 = true := Nat.ble_eq_true_of_le h1
  have e2 : Nat.ble z.toNat b.2 = true := Nat.ble_eq_true_of_le h2
  rw [e1, e2]; rfl
theorem mFr_mA {w : XW} {N : Nat} (h : 43 ≤ xn w) : mFr w (xmA w N) := ⟨fr_mA h, rfl, funext fun j => (by rw [l_mA, if_neg (by omega)])⟩
theorem rK_mA {w : XW} {N : Nat} (h : 43 ≤ xn w) : rK w (xmA w N) := ⟨rfl, rfl, funext fun j => (by rw [a_mA, if_neg (by omega)]), funext fun j => (by rw [a_mA, if_neg (by omega)]), funext fun j => (by rw [a_mA, if_neg (by omega)])⟩
section XMOD
variable {w : XW} {A : AS}
theorem r_turns {s : XW} (hG : XG s) {n par : Nat} {D : Nat → Nat → Int} (hn : 1 ≤ n ∧ n ≤ 10) (hD : asm n D) (hp : pic s n D) (hpar : par < 2) {zn zp : Int} (hz : zn = n ∧ zp = par) : ∃ s', xm M_turns 0 [.ref 34, .int (iI zn), .int (iI zp)] s = some (.null, s') ∧ mFr s s' ∧ rK s s' ∧ pic s' n (turnC n D par) := by
  obtain ⟨rfl, rfl⟩ := hz
  rw [e_M_turns, q_M_turns_0]
  refine x_nest (fun (i : Nat) (t : XW) (u : Option Value × Option Value × Option Value × Option Value × Option Value × Option Value) => xr M_turns 0 2 [some (.ref 34), some (.int (iI (n : Int))), some (.int (iI (par : Int))), some (.int (iI i)), u.1, u.2.1, u.2.2.1, u.2.2.2.1, u.2.2.2.2.1, u.2.2.2.2.2] [] (0, 0) t)
    (fun (i j : Nat) (t : XW) (u : Option Value × Option Value × Option Value × Option Value × Option Value) => xr M_turns 0 12 [some (.ref 34), some (.int (iI (n : Int))), some (.int (iI (par : Int))), some (.int (iI i)), some (.int (iI j)), u.1, u.2.1, u.2.2.1, u.2.2.2.1, u.2.2.2.2] [] (0, 0) t) (n - 1) (fun _ => n - 1)
    (fun i j t => mFr s t ∧ rK s t ∧ pic t n (tJ (tI n D par i) par (i + 1) j)) (fun o => ∃ s', o = some (.null, s') ∧ mFr s s' ∧ rK s s' ∧ pic s' n (turnC n D par))
    (fun i t u hi hq => ⟨u.2, ?_⟩) (fun i j t u hi hj hq => Or.inr ?_) (fun i t v hi hq => ⟨(some (.int (iI ((n - 1 : Nat) : Int))), v), ?_, hq⟩) (fun t u hq => ⟨t, ?_, hq⟩) s (none, none, none, none, none, none) ⟨mFr.rf _, rK.rf _, hp⟩
  · rw [q_M_turns_2, iI_sub]
    exact s_lef (by omega) rfl
  · obtain ⟨q1, q2, q3⟩ := hq
    have hE := asm_tJ (par := par) (asm_tI (par := par) hD i (by omega)) (r := i + 1) ⟨by omega, by omega⟩ j (by omega)
    generalize hEq : tJ (tI n D par i) par (i + 1) j = E at q3 hE
    have goal : ∀ t' (u' : Option Value × Option Value × Option Value × Option Value × Option Value), mFr s t' → rK s t' → pic t' n (turn1 E (i + 1) (j + 1) par) → xr M_turns 0 12 [some (.ref 34), some (.int (iI (n : Int))), some (.int (iI (par : Int))), some (.int (iI i)), some (.int (iI j)), u.1, u.2.1, u.2.2.1, u.2.2.2.1, u.2.2.2.2] [] (0, 0) t = xr M_turns 0 211 [some (.ref 34), some (.int (iI (n : Int))), some (.int (iI (par : Int))), some (.int (iI i)), some (.int (iI j)), u'.1, u'.2.1, u'.2.2.1, u'.2.2.2.1, u'.2.2.2.2] [] (0, 0) t' → ∃ (s' : XW) (v' : Option Value × Option Value × Option Value × Option Value × Option Value), xr M_turns 0 12 [some (.ref 34), some (.int (iI (n : Int))), some (.int (iI (par : Int))), some (.int (iI i)), some (.int (iI j)), u.1, u.2.1, u.2.2.1, u.2.2.2.1, u.2.2.2.2] [] (0, 0) t = xr M_turns 0 12 [some (.ref 34), some (.int (iI (n : Int))), some (.int (iI (par : Int))), some (.int (iI i)), some (.int (iI ((j + 1 : Nat) : Int))), v'.1, v'.2.1, v'.2.2.1, v'.2.2.2.1, v'.2.2.2.2] [] (0, 0) s' ∧ mFr s s' ∧ rK s s' ∧ pic s' n (tJ (tI n D par i) par (i + 1) (j + 1)) := by
      intro t' u' k1 k2 k3 k4
      refine ⟨t', u', ?_, k1, k2, ?_⟩
      · rw [k4, q_M_turns_211, iI_add]; rfl
      · show pic t' n (turn1 (tJ (tI n D par i) par (i + 1) j) (i + 1) (j + 1) par)
        rw [hEq]; exact k3
    by_cases hc : (i + 1 + (j + 1)) % 2 = par
    · have r1 := (q3 i (j + 1) (by omega) (by omega)).1
      have r2 := (q3 (i + 1) (j + 1) (by omega) (by omega)).1
      have r3 := (q3 (i + 1) j (by omega) (by omega)).2
      have r4 := (q3 (i + 1) (j + 1) (by omega) (by omega)).2
      rw [decide_eq_true (by omega : i < n), Bool.true_and] at r1
      rw [decide_eq_true (by omega : i + 1 < n), Bool.true_and] at r2
      rw [decide_eq_true (by omega : j < n), Bool.true_and] at r3
      rw [decide_eq_true (by omega : j + 1 < n), Bool.true_and] at r4
      obtain ⟨u', sq⟩ := r_square (col := (par : Int)) (q1.1.G hG) hn.2 (by omega : i + 1 < n) (by omega : j + 1 < n) r1 r2 r3 r4 u
      have pt := pic_turn hE q3 hn.2 (by omega : i + 1 < n) (by omega : j + 1 < n) hc
      refine goal _ u' ?_ ?_ pt ?_
      · split
        · exact (((q1.tr (mFr_I (by decide))).tr (mFr_I (by decide))).tr (mFr_I (by decide))).tr (mFr_I (by decide))
        · exact q1
      · split
        · exact (((q2.tr (rK_I (by decide))).tr (rK_I (by decide))).tr (rK_I (by decide))).tr (rK_I (by decide))
        · exact q2
      · rw [q_M_turns_12, iI_sub, iI_add]
        refine s_lef (by omega) (s_f (by decide) ?_)
        rw [iI_rem2 (by omega)]
        exact s_eqt (by omega) sq
    · refine goal t u q1 q2 ?_ ?_
      · unfold turn1
        rw [if_neg hc]; exact q3
      · rw [q_M_turns_12, iI_sub, iI_add]
        refine s_lef (by omega) (s_f (by decide) ?_)
        rw [iI_rem2 (by omega)]
        exact s_eqf (by omega) rfl
  · rw [q_M_turns_12, iI_sub]
    refine s_let (by omega) ?_
    rw [q_M_turns_217, iI_add]; rfl
  · rw [q_M_turns_2, iI_sub]
    refine s_let (by omega) ?_
    rw [q_M_turns_223]
theorem r_turn (h : IM w A) {z : Int} (hz : i32 z) : ∃ w', xm M_turn 0 [.ref 34, .int (iI z)] w = some (.int (bI (o_turn A z).1), w') ∧ IM w' (o_turn A z).2 ∧ mFr w w' := by
  have h0 := IM_F (k := 0) (v := iI 0) h (by decide)
  have f0 : mFr w (xpF w 34 0 (iI 0)) := mFr_F (by decide)
  rw [e_M_turn, q_M_turn_0]
  have kn := r_knows (w := w) hz
  generalize ht : xpF w 34 0 (iI 0) = t at *
  by_cases h1 : 0 ≤ z ∧ z < 8
  · have tt := h0.2.1 z.toNat (by omega)
    have hn := tt.1
    obtain ⟨g1, g2, g3⟩ := r_sizes h0.1 tt (z := z) (by omega)
    rw [show o_turn A z = (true, setT A z.toNat (A.1 z.toNat) (turnC (A.1 z.toNat) (turnC (A.1 z.toNat) (A.2.1 z.toNat) 0) 1)) from if_pos h1]
    generalize hN : A.1 z.toNat = n at *
    generalize hC : A.2.1 z.toNat = C at *
    have z01 : ∀ b : Bool, xz01 (bI b) = true := fun b => by cases b <;> decide
    have fin : ∀ (s : XW) (E : Nat → Nat → Int) (u : Option Value × Option Value × Option Value × Option Value), mFr t s → rK t s → asm n E → pic s n E → ∃ w', xr M_turn 0 128 [some (.ref 34), some (.int (iI z)), some (.int (iI (n : Int))), some (.int (iI ((0 : Nat) : Int))), u.1, u.2.1, u.2.2.1, u.2.2.2] [] (0, 0) s = some (.int (bI true), w') ∧ IM w' (setT A z.toNat n E) ∧ mFr w w' := by
      intro s E u k1 k2 k3 k4
      have hs := IM_K h0 (k1.1.G h0.1) k2
      refine x_nest (fun (i : Nat) (q : XW) (u : Option Value × Option Value × Option Value × Option Value) => xr M_turn 0 128 [some (.ref 34), some (.int (iI z)), some (.int (iI (n : Int))), some (.int (iI i)), u.1, u.2.1, u.2.2.1, u.2.2.2] [] (0, 0) q)
        (fun (i j : Nat) (q : XW) (u : Option Value × Option Value) => xr M_turn 0 139 [some (.ref 34), some (.int (iI z)), some (.int (iI (n : Int))), some (.int (iI i)), some (.int (iI (eS E true i j))), some (.int (iI ((j : Int) + 1))), u.1, u.2] [] (0, 0) q) n (fun _ => n)
        (fun i j q => mFr s q ∧ rOut s q z.toNat ∧ xIA q 35 z.toNat = iI (n : Int) ∧ xIA q 41 = xIA s 41 ∧ ∀ r c, (r < i ∧ c < n) ∨ (r = i ∧ c < j) → xIA q 36 ((z.toNat * 10 + r) * 10 + c) = iI (dA E r c)) (fun o => ∃ w', o = some (.int (bI true), w') ∧ IM w' (setT A z.toNat n E) ∧ mFr w w')
        (fun i q u hi hq => ⟨u.2.2, ?_⟩) (fun i j q u hi hj hq => Or.inr ⟨xpI q 36 ((z.toNat * 10 + i) * 10 + j) (iI (dA E i j)), (some (.int (bI (decide (eS E true i (j + 1) = 0)))), some (.int (iI (eS E true i (j + 1))))), ?_, ?_, ?_, ?_, ?_, ?_⟩) (fun i q u hi hq => ⟨(some (.int (iI (eS E true i n))), some (.int (iI ((n : Int) + 1))), u), ?_, hq.1, hq.2.1, hq.2.2.1, hq.2.2.2.1, fun r c hr => ?_⟩) (fun q u hq => ⟨q, ?_, ?_, (f0.tr k1).tr hq.1⟩) s u ⟨mFr.rf _, rOut.rf _ _, ?_, rfl, fun r c hr => by omega⟩
      · have : eS E true i 0 = 0 := by unfold eS; dsimp only; rw [k3.2.1 (i + 1) (by omega), k3.2.1 i (by omega)]; rfl
        rw [q_M_turn_128, this]
        exact s_lef (by omega) rfl
      · have hGq := hq.1.1.G hs.1
        have e0 := k3.edge (l := true) (i := i) (j := j + 1) ⟨hi, by omega⟩
        have pc := (k4 i (j + 1) (by omega) (by omega)).1
        rw [decide_eq_true hi, Bool.true_and] at pc
        have hb := hd_b (C := E) (l := true) (i := i) (j := j + 1)
        dsimp only at hb
        have last : xr M_turn 0 179 [some (.ref 34), some (.int (iI z)), some (.int (iI (n : Int))), some (.int (iI i)), some (.int (iI (eS E true i j))), some (.int (iI ((j : Int) + 1))), u.1, u.2] [.int (bI (decide (eS E true i (j + 1) = 0)))] (0, 0) q = xr M_turn 0 139 [some (.ref 34), some (.int (iI z)), some (.int (iI (n : Int))), some (.int (iI i)), some (.int (iI (eS E true i (j + 1)))), some (.int (iI (((j + 1 : Nat) : Int) + 1))), some (.int (bI (decide (eS E true i (j + 1) = 0)))), some (.int (iI (eS E true i (j + 1))))] [] (0, 0) (xpI q 36 ((z.toNat * 10 + i) * 10 + j) (iI (dA E i j))) := by
          have l191 : xr M_turn 0 191 [some (.ref 34), some (.int (iI z)), some (.int (iI (n : Int))), some (.int (iI i)), some (.int (iI (eS E true i j))), some (.int (iI ((j : Int) + 1))), some (.int (bI (decide (eS E true i (j + 1) = 0)))), u.2] [.int (iI (eS E true i (j + 1)))] (0, 0) q = xr M_turn 0 139 [some (.ref 34), some (.int (iI z)), some (.int (iI (n : Int))), some (.int (iI i)), some (.int (iI (eS E true i (j + 1)))), some (.int (iI (((j + 1 : Nat) : Int) + 1))), some (.int (bI (decide (eS E true i (j + 1) = 0)))), some (.int (iI (eS E true i (j + 1))))] [] (0, 0) (xpI q 36 ((z.toNat * 10 + i) * 10 + j) (iI (dA E i j))) := by
            rw [q_M_turn_191, iI_sub, iI_sub, iI_add]
            refine s_g rfl (s_V (r_aw hGq z.toNat i j (by omega) _) ?_)
            rw [show eS E true i (j + 1) - eS E true i j = dA E i j from rfl]; rfl
          rw [q_M_turn_179]
          by_cases q0 : eS E true i (j + 1) = 0
          · refine s_pt q0 ?_
            rw [← l191, q0]
          · refine s_pf q0 ?_
            rw [q_M_turn_190, ← l191, show eS E true i (j + 1) = 1 by omega]
        have mid : ∀ b : Bool, (hd E true i (j + 1) = b ↔ eS E true i (j + 1) = 0) → xr M_turn 0 171 [some (.ref 34), some (.int (iI z)), some (.int (iI (n : Int))), some (.int (iI i)), some (.int (iI (eS E true i j))), some (.int (iI ((j : Int) + 1))), u.1, u.2] [.int (bI b), .int (bI (hd E true i (j + 1)))] (0, 0) q = xr M_turn 0 179 [some (.ref 34), some (.int (iI z)), some (.int (iI (n : Int))), some (.int (iI i)), some (.int (iI (eS E true i j))), some (.int (iI ((j : Int) + 1))), u.1, u.2] [.int (bI (decide (eS E true i (j + 1) = 0)))] (0, 0) q := by
          intro b hbq
          rw [q_M_turn_171]
          by_cases q0 : hd E true i (j + 1) = b
          · rw [decide_eq_true (hbq.mp q0)]
            exact s_t (bI_eq.mpr q0) rfl
          · rw [decide_eq_false (fun y => q0 (hbq.mpr y))]
            refine s_f (fun y => q0 (bI_eq.mp y)) ?_
            rw [q_M_turn_178]; rfl
        rw [q_M_turn_139]
        simp only [iI_mul, iI_add]
        refine s_ltf (by omega) (s_g rfl (s_o (hGq.r (by decide) rfl) (s_g (xin_t (n := 121) (by omega)) (s_f (by decide) ?_))))
        rw [iI_nat (by omega), show (11 * (i : Int) + ((j : Int) + 1)).toNat = i * 11 + (j + 1) by omega, hq.2.2.2.1, pc, iI_rem2 (by omega), iI_zero]
        have ecast : ((j + 1 : Nat) : Int) = (j : Int) + 1 := rfl
        by_cases q0 : ((i : Int) + ((j : Int) + 1)) % 2 = 0
        · refine s_eqt q0 ((mid true ?_).trans last)
          rw [hb]; omega
        · refine s_eqf (by omega) ?_
          rw [q_M_turn_170]
          refine (mid false ?_).trans last
          rw [← Bool.not_eq_true, hb]; omega
      · exact hq.1.tr (mFr_I (by decide))
      · exact hq.2.1.tr (rOut_a (by omega) (by omega))
      · rw [a_pI, if_neg (by decide)]; exact hq.2.2.1
      · rw [← hq.2.2.2.1]; exact funext fun k => (by rw [a_pI, if_neg (by decide)])
      · intro r c hr
        rw [a_pI, if_pos rfl]
        by_cases e : r = i ∧ c = j
        · rw [if_pos (by rw [e.1, e.2]), e.1, e.2]
        · rw [if_neg (by omega)]; exact hq.2.2.2.2 r c (by omega)
      · rw [q_M_turn_139]
        refine s_ltt (by omega) ?_
        rw [q_M_turn_218, iI_add]; rfl
      · exact hq.2.2.2.2 r c (by omega)
      · rw [q_M_turn_128]
        refine s_let (by omega) ?_
        rw [q_M_turn_224, xbz_1]
      · exact IM_setT hs (by omega) (hq.1.1.G hs.1) ⟨hn, k3, hq.2.2.1, fun i j hi hj => hq.2.2.2.2 i j (Or.inl ⟨hi, hj⟩)⟩ hq.2.1.1 hq.2.1.2.1 hq.2.1.2.2.1 hq.2.1.2.2.2.1 hq.2.1.2.2.2.2
      · have := (hs.2.1 z.toNat (by omega)).2.2.1
        rw [hN] at this; exact this
    have key : ∃ w', xr M_turn 0 19 [some (.ref 34), some (.int (iI z)), some (.int (iI (n : Int))), some (.int (iI ((0 : Nat) : Int))), none, none, none, none] [] (0, 0) t = some (.int (bI true), w') ∧ IM w' (setT A z.toNat n (turnC n (turnC n C 0) 1)) ∧ mFr w w' := by
      refine x_nest (fun (i : Nat) (q : XW) (u : Option Value) => xr M_turn 0 19 [some (.ref 34), some (.int (iI z)), some (.int (iI (n : Int))), some (.int (iI i)), u, none, none, none] [] (0, 0) q)
        (fun (i j : Nat) (q : XW) (_ : Unit) => xr M_turn 0 27 [some (.ref 34), some (.int (iI z)), some (.int (iI (n : Int))), some (.int (iI i)), some (.int (iI j)), none, none, none] [] (0, 0) q) (n + 1) (fun _ => n + 1)
        (fun i j q => mFr t q ∧ rK t q ∧ ∀ r c, (r < i ∧ c ≤ n) ∨ (r = i ∧ c < j) → xIA q 41 (r * 11 + c) = bI (decide (r < n) && hd C true r c) ∧ xIA q 42 (r * 11 + c) = bI (decide (c < n) && hd C false r c)) (fun o => ∃ w', o = some (.int (bI true), w') ∧ IM w' (setT A z.toNat n (turnC n (turnC n C 0) 1)) ∧ mFr w w')
        (fun i q u hi hq => ⟨(), ?_⟩) (fun i j q u hi hj hq => Or.inr ⟨xpI (xpI q 41 (i * 11 + j) (bI (decide (i < n) && hd C true i j))) 42 (i * 11 + j) (bI (decide (j < n) && hd C false i j)), (), ?_, ?_, ?_, fun r c hr => ?_⟩) (fun i q u hi hq => ⟨some (.int (iI ((n + 1 : Nat) : Int))), ?_, hq.1, hq.2.1, fun r c hr => ?_⟩) (fun q u hq => ?_) t none ⟨mFr.rf _, rK.rf _, fun r c hr => by omega⟩
      · rw [q_M_turn_19]
        exact s_ltf (by omega) rfl
      · obtain ⟨q1, q2, q3⟩ := hq
        have hG := q1.1.G h0.1
        have f1 : mFr t (xpI q 41 (i * 11 + j) (bI (decide (i < n) && hd C true i j))) := q1.tr (mFr_I (by decide))
        have k1 : rK t (xpI q 41 (i * 11 + j) (bI (decide (i < n) && hd C true i j))) := q2.tr (rK_I (by decide))
        have nn : (iI (11 * (i : Int) + (j : Int))).toNatClampNeg = i * 11 + j := by rw [iI_nat (by omega)]; omega
        have p101 : ∀ b : Bool, xr M_turn 0 101 [some (.ref 34), some (.int (iI z)), some (.int (iI (n : Int))), some (.int (iI i)), some (.int (iI j)), none, none, none] [.int (bI b), .int (iI (11 * (i : Int) + (j : Int))), .ref 42] (0, 0) (xpI q 41 (i * 11 + j) (bI (decide (i < n) && hd C true i j))) = xr M_turn 0 27 [some (.ref 34), some (.int (iI z)), some (.int (iI (n : Int))), some (.int (iI i)), some (.int (iI ((j + 1 : Nat) : Int))), none, none, none] [] (0, 0) (xpI (xpI q 41 (i * 11 + j) (bI (decide (i < n) && hd C true i j))) 42 (i * 11 + j) (bI b)) := by
          intro b
          rw [q_M_turn_101, nn, iI_add]
          exact s_g (xin_t (n := 121) (by omega)) (s_g (z01 b) rfl)
        have p66 : xr M_turn 0 66 [some (.ref 34), some (.int (iI z)), some (.int (iI (n : Int))), some (.int (iI i)), some (.int (iI j)), none, none, none] [.int (bI (decide (i < n) && hd C true i j)), .int (iI (11 * (i : Int) + (j : Int))), .ref 41] (0, 0) q = xr M_turn 0 27 [some (.ref 34), some (.int (iI z)), some (.int (iI (n : Int))), some (.int (iI i)), some (.int (iI ((j + 1 : Nat) : Int))), none, none, none] [] (0, 0) (xpI (xpI q 41 (i * 11 + j) (bI (decide (i < n) && hd C true i j))) 42 (i * 11 + j) (bI (decide (j < n) && hd C false i j))) := by
          rw [q_M_turn_66, nn, iI_mul, iI_add]
          refine s_g (xin_t (n := 121) (by omega)) (s_g (z01 _) (s_g rfl (s_o ((f1.1.G h0.1).r (by decide) rfl) ?_)))
          by_cases e : j < n
          · refine s_lef (by omega) (s_g rfl (s_I (r_isHeld (f1.1.G h0.1) (rt_K tt k1) (by omega) false rfl i j (by omega) ⟨by omega, e⟩) ?_))
            rw [decide_eq_true e, Bool.true_and]
            cases hd C false i j with
            | true => exact s_bt rfl (p101 true)
            | false =>
              refine s_bf rfl ?_
              rw [q_M_turn_100]; exact p101 false
          · refine s_let (by omega) ?_
            rw [decide_eq_false e, Bool.false_and, q_M_turn_100]; exact p101 false
        rw [q_M_turn_27]
        simp only [iI_mul, iI_add]
        refine s_ltf (by omega) (s_g rfl (s_o (hG.r (by decide) rfl) ?_))
        by_cases e : i < n
        · refine s_lef (by omega) (s_g rfl (s_I (r_isHeld hG (rt_K tt q2) (by omega) true rfl i j (by omega) ⟨e, by omega⟩) ?_))
          have p66' := p66
          rw [decide_eq_true e, Bool.true_and] at p66' ⊢
          cases hv : hd C true i j with
          | true => rw [hv] at p66'; exact s_bt rfl p66'
          | false =>
            rw [hv] at p66'
            refine s_bf rfl ?_
            rw [q_M_turn_65]; exact p66'
        · refine s_let (by omega) ?_
          have p66' := p66
          rw [decide_eq_false e, Bool.false_and] at p66' ⊢
          rw [q_M_turn_65]; exact p66'
      · exact (hq.1.tr (mFr_I (by decide))).tr (mFr_I (by decide))
      · exact (hq.2.1.tr (rK_I (by decide))).tr (rK_I (by decide))
      · rw [a_pI, if_neg (by decide), a_pI, if_pos rfl, a_pI, if_pos rfl]
        by_cases e : r = i ∧ c = j
        · rw [if_pos (by rw [e.1, e.2]), if_pos (by rw [e.1, e.2]), e.1, e.2]; exact ⟨rfl, rfl⟩
        · rw [if_neg (by omega), if_neg (by omega), a_pI, if_neg (by decide)]; exact hq.2.2 r c (by omega)
      · rw [q_M_turn_27]
        refine s_ltt (by omega) ?_
        rw [q_M_turn_108, iI_add]; rfl
      · exact hq.2.2 r c (by omega)
      · obtain ⟨q1, q2, q3⟩ := hq
        have hp0 : pic q n C := fun r c hr hc => q3 r c (Or.inl ⟨by omega, hc⟩)
        obtain ⟨s1, a1, a2, a3, a4⟩ := r_turns (q1.1.G h0.1) (par := 0) (zn := (n : Int)) (zp := 0) hn tt.2.1 hp0 (by decide) (by omega)
        have hE1 : asm n (turnC n C 0) := asm_turn tt.2.1 hn.1
        obtain ⟨s2, b1, b2, b3, b4⟩ := r_turns (a2.1.G (q1.1.G h0.1)) (par := 1) (zn := (n : Int)) (zp := 1) hn hE1 a4 (by decide) (by omega)
        obtain ⟨w', c1, c2, c3⟩ := fin s2 (turnC n (turnC n C 0) 1) (u, none, none, none) ((q1.tr a2).tr b2) ((q2.tr a3).tr b3) (asm_turn hE1 hn.1) b4
        refine ⟨w', ?_, c2, c3⟩
        rw [q_M_turn_19]
        refine s_ltt (by omega) ?_
        rw [q_M_turn_114]
        exact s_g rfl (s_V a1 (s_g rfl (s_V b1 c1)))
    obtain ⟨w', k1, k2, k3⟩ := key
    refine ⟨w', s_g rfl (s_I kn (s_pt h1 ?_)), k2, k3⟩
    rw [q_M_turn_10]
    refine s_g rfl (s_o g1 (s_g g2 ?_))
    rw [g3]; exact k1
  · rw [show o_turn A z = (false, A) from if_neg h1]
    refine ⟨t, s_g rfl (s_I kn (s_pf h1 ?_)), h0, f0⟩
    rw [xbz_0]
end XMOD
