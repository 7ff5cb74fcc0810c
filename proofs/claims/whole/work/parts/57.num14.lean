/-! ===== NUMBERS, 14 (own work): number, of, draw of the class ===== -/
/-- the class's cells but for the loops' and the joinings' -/
def cU (q : Nat) : Bool := decide (q < 13) || (decide (18 ≤ q) && decide (q < 34))
theorem cU_cT {w w' : XW} (f : xFr cT w w') : xFr cU w w' := f.wk (fun q _ hq => by
  simp only [cT, Bool.or_eq_true, Bool.and_eq_true, decide_eq_true_eq] at hq
  simp only [cU, Bool.or_eq_true, Bool.and_eq_true, decide_eq_true_eq]
  omega)
theorem cU_nS {w w' : XW} (f : xFr nS w w') : xFr cU w w' := f.wk (fun q _ hq => by
  simp only [nS, Bool.and_eq_true, decide_eq_true_eq] at hq
  simp only [cU, Bool.or_eq_true, Bool.and_eq_true, decide_eq_true_eq]
  omega)
theorem cU_bS {w w' : XW} {p : Nat} (hp : p < 8) (f : xFr (bS (18 + 2 * p)) w w') : xFr cU w w' := f.wk (fun q _ hq => by
  simp only [bS, nS, Bool.or_eq_true, Bool.and_eq_true, decide_eq_true_eq, beq_iff_eq] at hq
  simp only [cU, Bool.or_eq_true, Bool.and_eq_true, decide_eq_true_eq]
  omega)
theorem IC_set2 {w w' : XW} {A : AS} {p n : Nat} {C : Nat → Nat → Int} {S : Nat → Bool} (h : IC w A) (hp : p < 8) (f : xFr S w w') (hS : ∀ q, (3 ≤ q ∧ q < 6) ∨ (18 ≤ q ∧ q < 34) → q ≠ 18 + 2 * p → q ≠ 18 + 2 * p + 1 → S q = false) (ht : tb w' (18 + 2 * p) n C) (hz : zr w' (18 + 2 * p)) : IC w' (setT A p n C) := by
  refine ⟨f.G h.1, fun q hq => ?_, h.2.2.1.fr (Or.inl rfl) f (hS 3 (by omega) (by omega) (by omega)), h.2.2.2.fr f (hS 4 (by omega) (by omega) (by omega)) (hS 5 (by omega) (by omega) (by omega))⟩
  show tb w' (18 + 2 * q) (if q = p then n else A.1 q) (if q = p then C else A.2.1 q) ∧ zr w' (18 + 2 * q)
  by_cases e : q = p
  · rw [if_pos e, if_pos e, e]; exact ⟨ht, hz⟩
  · rw [if_neg e, if_neg e]
    exact ⟨(h.2.1 q hq).1.fr f (hS _ (by omega) (by omega) (by omega)) (hS _ (by omega) (by omega) (by omega)), (h.2.1 q hq).2.fr (isT_p hq) f (hS _ (by omega) (by omega) (by omega))⟩
theorem IC_bS {w w' : XW} {A : AS} {p n : Nat} {C : Nat → Nat → Int} (h : IC w A) (hp : p < 8) (f : xFr (bS (18 + 2 * p)) w w') (ht : tb w' (18 + 2 * p) n C) (hz : zr w' (18 + 2 * p)) : IC w' (setT A p n C) :=
  IC_set2 h hp f (fun q h1 h2 h3 => by
    simp only [bS, nS, Bool.or_eq_false_iff, Bool.and_eq_false_iff, decide_eq_false_iff_not, beq_eq_false_iff_ne]; omega) ht hz
def o_number (A : AS) (z : Int) : Int64 := if 0 ≤ z ∧ z < 8 then lI (numC (A.1 z.toNat) (A.2.1 z.toNat) (A.1 z.toNat) : Nat) else lI (-1)
def o_of (A : AS) (z zn l : Int) : Bool × AS := if (0 ≤ z ∧ z < 8) ∧ (1 ≤ zn ∧ zn ≤ 10) ∧ 0 ≤ l ∧ l < xsl zn.toNat then (true, setT A z.toNat zn.toNat (buC zn.toNat l.toNat)) else (false, A)
def mB (n : Nat) : Nat := [0, 0, 1, 3, 6, 9, 13, 18, 24, 30, 37].getD n 0
def dS (l : Int64) : Nat → Int64
  | 0 => l
  | k + 1 => (dS l k * (lI 6364136223846793005)) + (lI 1442695040888963407)
theorem dS_s (l : Int64) (k : Nat) : (dS l k * (lI 6364136223846793005)) + (lI 1442695040888963407) = dS l (k + 1) := rfl
def tk (m x : Int64) : Int64 := ((x.toUInt64 >>> ((iI 16).toInt64.toUInt64 &&& Int64.toUInt64 63)).toInt64) &&& m
theorem tk_d (m x : Int64) : ((x.toUInt64 >>> ((iI 16).toInt64.toUInt64 &&& Int64.toUInt64 63)).toInt64) &&& m = tk m x := rfl
def mk (n : Nat) : Int64 := lI ((2 ^ mB n - 1 : Nat) : Int)
def hitD (n : Nat) (l : Int64) (k : Nat) : Bool := decide (tk (mk n) (dS l (k + 1)) < lI (xsl n))
def o_draw (A : AS) (z zn : Int) (l : Int64) : Int × AS := if (0 ≤ z ∧ z < 8) ∧ (1 ≤ zn ∧ zn ≤ 10) ∧ firstN (hitD zn.toNat l) 1000 < 1000 then ((firstN (hitD zn.toNat l) 1000 : Nat) + 1, setT A z.toNat zn.toNat (buC zn.toNat (tk (mk zn.toNat) (dS l (firstN (hitD zn.toNat l) 1000 + 1))).toInt.toNat)) else (-1, A)
theorem and_nn (x m : Int64) (hm : 0 ≤ m.toInt) : 0 ≤ (x &&& m).toInt := by
  have h1 : m.toBitVec.msb = decide (m.toInt < 0) := BitVec.msb_eq_toInt
  have h2 : (x &&& m).toBitVec.msb = decide ((x &&& m).toInt < 0) := BitVec.msb_eq_toInt
  have h3 : (x &&& m).toBitVec.msb = (x.toBitVec.msb && m.toBitVec.msb) := BitVec.msb_and
  rw [h1, decide_eq_false (by omega), Bool.and_false, h2] at h3
  have := of_decide_eq_false h3
  omega
theorem mB_le : ∀ n, n < 11 → mB n ≤ 37 := by decide
theorem mk_nn {n : Nat} (hn : n ≤ 10) : 0 ≤ (mk n).toInt := by
  have h1 := mB_le n (by omega)
  have h2 : (2 : Nat) ^ mB n ≤ 2 ^ 37 := Nat.pow_le_pow_right (by decide) h1
  have h3 : (2 : Nat) ^ 37 = 137438953472 := by decide
  unfold mk
  rw [lI_val (by omega)]; omega
theorem tk_nn {n : Nat} (hn : n ≤ 10) (x : Int64) : 0 ≤ (tk (mk n) x).toInt := and_nn _ _ (mk_nn hn)
theorem mB_lo : ∀ n, n < 11 → 1 ≤ n → ∀ k, k < mB n → ((2 ^ k - 1 : Nat) : Int) < xsl n - 1 := by decide +kernel
theorem mB_hi : ∀ n, n < 11 → 1 ≤ n → xsl n - 1 ≤ ((2 ^ mB n - 1 : Nat) : Int) := by decide +kernel
section XNUM14
variable {w : XW} {A : AS}
theorem c_number (h : IC w A) (hI : nbI w) {z : Int} (hz : i32 z) : ∃ w', xm B_number 0 [.ref 0, .int (iI z)] w = some (.long (o_number A z), w') ∧ IC w' A ∧ nbI w' ∧ xFr cU w w' := by
  rw [e_B_number, q_B_number_0]
  unfold o_number
  by_cases h1 : 0 ≤ z ∧ z < 8
  · rw [if_pos h1]
    have t := (h.2.1 z.toNat (by omega)).1
    obtain ⟨w', k1, k2, k3⟩ := u_number t hI (by omega)
    refine ⟨w', s_g rfl (s_A (c_tab h.1 z.toNat (by omega)) (s_g rfl (s_g rfl (s_nr ?_)))), IC_fr h k2 (fun q hq => ?_), k3, cU_nS k2⟩
    · rw [q_B_number_16]
      refine s_g rfl (s_o (h.1.r (by decide) rfl) (s_g rfl (s_g rfl (s_g rfl (s_J k1 ?_)))))
      rw [q_B_number_24]
    · simp only [nS, Bool.and_eq_false_iff, decide_eq_false_iff_not]; omega
  · rw [if_neg h1]
    refine ⟨w, s_g rfl (s_An (c_tabN hz h1) (s_g rfl (s_g rfl (s_nn ?_)))), h, hI, xFr.rf _ _⟩
    rw [q_B_number_24]
theorem c_of (h : IC w A) (hI : nbI w) {z zn l : Int} (hz : i32 z) (hn : i32 zn) (hl : i64 l) : ∃ w', xm B_of 0 [.ref 0, .int (iI z), .int (iI zn), .long (lI l)] w = some (.int (bI (o_of A z zn l).1), w') ∧ IC w' (o_of A z zn l).2 ∧ nbI w' ∧ xFr cU w w' := by
  have no : ¬ ((0 ≤ z ∧ z < 8) ∧ (1 ≤ zn ∧ zn ≤ 10) ∧ 0 ≤ l ∧ l < xsl zn.toNat) → xm B_of 0 [.ref 0, .int (iI z), .int (iI zn), .long (lI l)] w = some (.int (bI false), w) → ∃ w', xm B_of 0 [.ref 0, .int (iI z), .int (iI zn), .long (lI l)] w = some (.int (bI (o_of A z zn l).1), w') ∧ IC w' (o_of A z zn l).2 ∧ nbI w' ∧ xFr cU w w' := fun q k => by
    rw [show o_of A z zn l = (false, A) from if_neg q]
    exact ⟨w, k, h, hI, xFr.rf _ _⟩
  by_cases h1 : 0 ≤ z ∧ z < 8
  · by_cases h2 : 1 ≤ zn ∧ zn ≤ 10
    · have xb := xsl_bd zn.toNat (by omega) (by omega)
      by_cases h3 : 0 ≤ l
      · by_cases h4 : l < xsl zn.toNat
        · rw [show o_of A z zn l = (true, _) from if_pos ⟨h1, h2, h3, h4⟩]
          have t := h.2.1 z.toNat (by omega)
          have wz := wy_zero (n := zn.toNat) (by omega) (by omega)
          obtain ⟨w', k1, k2, k3, k4, k5⟩ := u_build h.1 t.1.1 (by omega) hI t.2 (n := zn.toNat) (by omega) (N := l.toNat) (by omega) (z := zn) (by omega)
          rw [show ((l.toNat : Nat) : Int) = l by omega] at k1
          refine ⟨w', ?_, IC_bS h (by omega) k2 k4 k5, k3, cU_bS (by omega) k2⟩
          rw [e_B_of, q_B_of_0]
          refine s_g rfl (s_A (c_tab h.1 z.toNat (by omega)) (s_g rfl (s_g rfl (s_nr (s_I (c_isSize hn) (s_pt h2 (s_f ?_ (s_g (xin_t (by omega)) (s_t ?_ ?_)))))))))
          · intro q; have := (lI_lt hl (b := 0) (by omega)).mp ((lg_cmp_lt _ _).mp q); omega
          · rw [iI_nat (by omega)]; exact (lg_cmp_lt _ _).mpr ((lI_lt hl (by omega)).mpr h4)
          · rw [q_B_of_37]
            refine s_g rfl (s_o (h.1.r (by decide) rfl) (s_g rfl (s_g rfl (s_g rfl (s_V k1 ?_)))))
            rw [xbz_1]
        · refine no (fun q => h4 q.2.2.2) ?_
          rw [e_B_of, q_B_of_0]
          refine s_g rfl (s_A (c_tab h.1 z.toNat (by omega)) (s_g rfl (s_g rfl (s_nr (s_I (c_isSize hn) (s_pt h2 (s_f ?_ (s_g (xin_t (by omega)) (s_f ?_ ?_)))))))))
          · intro q; have := (lI_lt hl (b := 0) (by omega)).mp ((lg_cmp_lt _ _).mp q); omega
          · rw [iI_nat (by omega)]; intro q; exact h4 ((lI_lt hl (by omega)).mp ((lg_cmp_lt _ _).mp q))
          · rw [q_B_of_35, xbz_0]
      · refine no (fun q => h3 q.2.2.1) ?_
        rw [e_B_of, q_B_of_0]
        refine s_g rfl (s_A (c_tab h.1 z.toNat (by omega)) (s_g rfl (s_g rfl (s_nr (s_I (c_isSize hn) (s_pt h2 (s_t ?_ ?_)))))))
        · exact (lg_cmp_lt _ _).mpr ((lI_lt hl (by omega)).mpr (by omega))
        · rw [q_B_of_35, xbz_0]
    · refine no (fun q => h2 q.2.1) ?_
      rw [e_B_of, q_B_of_0]
      refine s_g rfl (s_A (c_tab h.1 z.toNat (by omega)) (s_g rfl (s_g rfl (s_nr (s_I (c_isSize hn) (s_pf h2 ?_))))))
      rw [q_B_of_35, xbz_0]
  · refine no (fun q => h1 q.1) ?_
    rw [e_B_of, q_B_of_0]
    refine s_g rfl (s_An (c_tabN hz h1) (s_g rfl (s_g rfl (s_nn ?_))))
    rw [q_B_of_35, xbz_0]
theorem c_bitsUpTo {n : Nat} (hn : 1 ≤ n ∧ n ≤ 10) : xm B_bitsUpTo 0 [.long (lI (xsl n - 1))] w = some (.long (mk n), w) := by
  have xb := xsl_bd n (by omega) hn.1
  have h1 := mB_le n (by omega)
  have h2 : (2 : Nat) ^ mB n ≤ 2 ^ 37 := Nat.pow_le_pow_right (by decide) h1
  have h3 : (2 : Nat) ^ 37 = 137438953472 := by decide
  have hlo := mB_lo n (by omega) hn.1
  have hhi := mB_hi n (by omega) hn.1
  rw [e_B_bitsUpTo, q_B_bitsUpTo_0]
  have up := x_up (fun k : Nat => xr B_bitsUpTo 0 5 [some (.long (lI (xsl n - 1))), some (.retAddr 7), some (.long (lI ((2 ^ k - 1 : Nat) : Int))), some (.retAddr 7), some (.int (iI k))] [] (0, 0) w) (N := mB n) (fun k hk => by
    have h4 : (2 : Nat) ^ k ≤ 2 ^ mB n := Nat.pow_le_pow_right (by decide) (by omega)
    have pp := pow_pos2 k
    show xr B_bitsUpTo 0 5 _ [] (0, 0) w = _
    rw [q_B_bitsUpTo_5]
    refine s_lef (by omega) (s_f (fun q => ?_) ?_)
    · have := (lI_le (by omega) (by omega)).mp ((lg_cmp_ge _ _).mp q)
      have := hlo k hk
      omega
    · rw [lI_mul, lI_add, iI_add, show (2 : Int) * ((2 ^ k - 1 : Nat) : Int) + 1 = ((2 ^ (k + 1) - 1 : Nat) : Int) by rw [Nat.pow_succ]; omega]
      rfl) 0 (Nat.zero_le _)
  refine Eq.trans up ?_
  show xr B_bitsUpTo 0 5 _ [] (0, 0) w = _
  rw [q_B_bitsUpTo_5]
  refine s_lef (by omega) (s_t ?_ ?_)
  · exact (lg_cmp_ge _ _).mpr ((lI_le (by omega) (by omega)).mpr hhi)
  · rw [q_B_bitsUpTo_32]; rfl
theorem c_draw (h : IC w A) (hI : nbI w) {z zn : Int} (l : Int64) (hz : i32 z) (hn : i32 zn) : ∃ w', xm B_draw 0 [.ref 0, .int (iI z), .int (iI zn), .long l] w = some (.int (iI (o_draw A z zn l).1), w') ∧ IC w' (o_draw A z zn l).2 ∧ nbI w' ∧ xFr cU w w' := by
  have no : ¬ ((0 ≤ z ∧ z < 8) ∧ (1 ≤ zn ∧ zn ≤ 10) ∧ firstN (hitD zn.toNat l) 1000 < 1000) → xm B_draw 0 [.ref 0, .int (iI z), .int (iI zn), .long l] w = some (.int (iI (-1)), w) → ∃ w', xm B_draw 0 [.ref 0, .int (iI z), .int (iI zn), .long l] w = some (.int (iI (o_draw A z zn l).1), w') ∧ IC w' (o_draw A z zn l).2 ∧ nbI w' ∧ xFr cU w w' := fun q k => by
    rw [show o_draw A z zn l = (-1, A) from if_neg q]
    exact ⟨w, k, h, hI, xFr.rf _ _⟩
  by_cases h1 : 0 ≤ z ∧ z < 8
  · by_cases h2 : 1 ≤ zn ∧ zn ≤ 10
    · have hxb := xsl_bd zn.toNat (by omega) (by omega)
      have t := h.2.1 z.toNat (by omega)
      have wz := wy_zero (n := zn.toNat) (by omega) (by omega)
      have pre : ∀ o, xr B_draw 0 39 [some (.ref 0), some (.int (iI z)), some (.int (iI zn)), some (.long l), some (.retAddr 7), some (.ref (18 + 2 * z.toNat)), some (.long (mk zn.toNat)), some (.retAddr 7), some (.long l), some (.retAddr 7), some (.int (iI 1)), none, none] [] (0, 0) w = o → xm B_draw 0 [.ref 0, .int (iI z), .int (iI zn), .long l] w = o := fun o ho => by
        rw [e_B_draw, q_B_draw_0]
        refine s_g rfl (s_A (c_tab h.1 z.toNat (by omega)) (s_g rfl (s_g rfl (s_nr (s_I (c_isSize hn) (s_pt h2 ?_))))))
        rw [q_B_draw_21, iI_nat (by omega), lI_sub]
        exact s_g (xin_t (by omega)) (s_J (c_bitsUpTo (by omega)) ho)
      suffices hs : ∃ w', xr B_draw 0 39 [some (.ref 0), some (.int (iI z)), some (.int (iI zn)), some (.long l), some (.retAddr 7), some (.ref (18 + 2 * z.toNat)), some (.long (mk zn.toNat)), some (.retAddr 7), some (.long l), some (.retAddr 7), some (.int (iI 1)), none, none] [] (0, 0) w = some (.int (iI (o_draw A z zn l).1), w') ∧ IC w' (o_draw A z zn l).2 ∧ nbI w' ∧ xFr cU w w' by
        obtain ⟨w', k1, k2⟩ := hs
        exact ⟨w', pre _ k1, k2⟩
      refine x_loop (fun (k : Nat) (_ : Unit) (u : Option Value × Option Value) => xr B_draw 0 39 [some (.ref 0), some (.int (iI z)), some (.int (iI zn)), some (.long l), some (.retAddr 7), some (.ref (18 + 2 * z.toNat)), some (.long (mk zn.toNat)), some (.retAddr 7), some (.long (dS l k)), some (.retAddr 7), some (.int (iI ((k : Int) + 1))), u.1, u.2] [] (0, 0) w) 1000
        (fun k _ => ∀ j, j < k → hitD zn.toNat l j = false) (fun o => ∃ w', o = some (.int (iI (o_draw A z zn l).1), w') ∧ IC w' (o_draw A z zn l).2 ∧ nbI w' ∧ xFr cU w w') (fun k s u hk hp => ?_) (fun s u hp => ?_) () (none, none) (fun j hj => absurd hj (Nat.not_lt_zero _))
      · show (∃ w', xr B_draw 0 39 _ [] (0, 0) w = _ ∧ _) ∨ _
        rw [q_B_draw_39, dS_s, tk_d, iI_nat (by omega)]
        cases hh : hitD zn.toNat l k with
        | true =>
          have e := firstN_at (p := hitD zn.toNat l) hk hh hp
          have hlt := of_decide_eq_true hh
          have nn := tk_nn (n := zn.toNat) (by omega) (dS l (k + 1))
          rw [Int64.lt_iff_toInt_lt, lI_val (by omega)] at hlt
          refine Or.inl ?_
          rw [show o_draw A z zn l = _ from if_pos ⟨h1, h2, by omega⟩, e]
          obtain ⟨w', k1, k2, k3, k4, k5⟩ := u_build h.1 t.1.1 (by omega) hI t.2 (n := zn.toNat) (by omega) (N := (tk (mk zn.toNat) (dS l (k + 1))).toInt.toNat) (by omega) (z := zn) (by omega)
          have el : lI (((tk (mk zn.toNat) (dS l (k + 1))).toInt.toNat : Nat) : Int) = tk (mk zn.toNat) (dS l (k + 1)) := by
            rw [show (((tk (mk zn.toNat) (dS l (k + 1))).toInt.toNat : Nat) : Int) = (tk (mk zn.toNat) (dS l (k + 1))).toInt by omega]
            exact Int64.ofInt_toInt _
          rw [el] at k1
          refine ⟨w', s_ltf (by omega) (s_g (xin_t (by omega)) (s_f (fun q => ?_) (s_g rfl (s_o (h.1.r (by decide) rfl) (s_g rfl (s_g rfl (s_g rfl (s_V k1 rfl)))))))), IC_bS h (by omega) k2 k4 k5, k3, cU_bS (by omega) k2⟩
          have := (lg_cmp_ge _ _).mp q
          rw [Int64.le_iff_toInt_le, lI_val (by omega)] at this
          omega
        | false =>
          have hlt := of_decide_eq_false hh
          rw [Int64.lt_iff_toInt_lt, lI_val (by omega)] at hlt
          refine Or.inr ⟨(), (some (.long (tk (mk zn.toNat) (dS l (k + 1)))), some (.retAddr 7)), s_ltf (by omega) (s_g (xin_t (by omega)) (s_t ?_ ?_)), fun j hj => ?_⟩
          · refine (lg_cmp_ge _ _).mpr ?_
            rw [Int64.le_iff_toInt_le, lI_val (by omega)]
            omega
          · rw [q_B_draw_95, iI_add]; rfl
          · rcases Nat.lt_or_ge j k with q | q
            · exact hp j q
            · rw [show j = k by omega]; exact hh
      · have e := firstN_all (p := hitD zn.toNat l) hp
        show ∃ w', xr B_draw 0 39 _ [] (0, 0) w = _ ∧ _
        rw [show o_draw A z zn l = (-1, A) from if_neg (fun q => by omega)]
        refine ⟨w, ?_, h, hI, xFr.rf _ _⟩
        rw [q_B_draw_39]
        refine s_ltt (by omega) ?_
        rw [q_B_draw_101]
    · refine no (fun q => h2 q.2.1) ?_
      rw [e_B_draw, q_B_draw_0]
      refine s_g rfl (s_A (c_tab h.1 z.toNat (by omega)) (s_g rfl (s_g rfl (s_nr (s_I (c_isSize hn) (s_pf h2 ?_))))))
      rw [q_B_draw_19]
  · refine no (fun q => h1 q.1) ?_
    rw [e_B_draw, q_B_draw_0]
    refine s_g rfl (s_An (c_tabN hz h1) (s_g rfl (s_g rfl (s_nn ?_))))
    rw [q_B_draw_19]
end XNUM14
