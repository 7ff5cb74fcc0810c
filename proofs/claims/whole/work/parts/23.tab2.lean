/-! ===== TABLES, 2 (own work): steps, comparisons, moved entries ===== -/
theorem m_abs {x : Int} (h : i32 x ∧ x ≠ -2147483648) (w : XW) : xm Z_J9_abs_0f7a4 0 [.int (iI x)] w = some (.int (iI (if 0 ≤ x then x else -x)), w) := by
  rw [e_Z_J9_abs_0f7a4, q_Z_J9_abs_0f7a4_0, iI_zero]
  by_cases h1 : 0 ≤ x
  · refine s_let (by omega) ?_
    rw [q_Z_J9_abs_0f7a4_9, q_Z_J9_abs_0f7a4_10, if_pos h1]
  · refine s_lef (by omega) ?_
    rw [q_Z_J9_abs_0f7a4_10, iI_neg, if_neg h1]
theorem m_max (x y : Int32) (w : XW) : xm Z_J9_max_7cf53 0 [.int x, .int y] w = some (.int (if x < y then y else x), w) := by
  rw [e_Z_J9_max_7cf53, q_Z_J9_max_7cf53_0]
  split
  · rw [q_Z_J9_max_7cf53_9, q_Z_J9_max_7cf53_10]
  · rw [q_Z_J9_max_7cf53_10]
theorem m_min (x y : Int32) (w : XW) : xm Z_J9_min_7cf53 0 [.int x, .int y] w = some (.int (if y < x then y else x), w) := by
  rw [e_Z_J9_min_7cf53, q_Z_J9_min_7cf53_0]
  split
  · rw [q_Z_J9_min_7cf53_9, q_Z_J9_min_7cf53_10]
  · rw [q_Z_J9_min_7cf53_10]
theorem m_compare {x y : Int} (hx : i32 x) (hy : i32 y) (w : XW) : xm Y_J6_compare_7cf53 0 [.int (iI x), .int (iI y)] w = some (.int (iI (if x < y then -1 else if x = y then 0 else 1)), w) := by
  rw [e_Y_J6_compare_7cf53, q_Y_J6_compare_7cf53_0]
  by_cases h1 : x < y
  · refine s_lef (by omega) ?_
    rw [q_Y_J6_compare_7cf53_19, if_pos h1]
  · refine s_let (by omega) ?_
    rw [q_Y_J6_compare_7cf53_9, if_neg h1]
    by_cases h2 : x = y
    · refine s_eqt h2 ?_
      rw [q_Y_J6_compare_7cf53_19, if_pos h2]
    · refine s_eqf (by omega) ?_
      rw [q_Y_J6_compare_7cf53_18, q_Y_J6_compare_7cf53_19, if_neg h2]
def rs (x y : Int) : Prop := y = x ∨ y = x + 1
theorem rs_dec (x y : Int) : rs x y ↔ (y = x ∨ y = x + 1) := Iff.rfl
theorem m_rises {x y : Int} (hx : i32 x ∧ x < 2147483647) (hy : i32 y) (w : XW) : xm T_rises 0 [.int (iI x), .int (iI y)] w = some (.int (bI (decide (y = x ∨ y = x + 1))), w) := by
  rw [e_T_rises, q_T_rises_0, iI_add]
  by_cases h1 : y = x
  · refine s_eqt h1 ?_
    rw [q_T_rises_12, q_T_rises_17, xbz_1, decide_eq_true (Or.inl h1)]
  · refine s_eqf (by omega) ?_
    by_cases h2 : y = x + 1
    · refine s_eqt h2 ?_
      rw [q_T_rises_12, q_T_rises_17, xbz_1, decide_eq_true (Or.inr h2)]
    · refine s_eqf (by omega) ?_
      rw [q_T_rises_16, q_T_rises_17, xbz_0, decide_eq_false (by omega)]
def canS (C : Nat → Nat → Int) (i j : Nat) (d : Int) : Bool := decide ((C i j + d = C (i - 1) j ∨ C i j + d = C (i - 1) j + 1) ∧ (C i j + d = C i (j - 1) ∨ C i j + d = C i (j - 1) + 1) ∧ (C (i + 1) j = C i j + d ∨ C (i + 1) j = C i j + d + 1) ∧ (C i (j + 1) = C i j + d ∨ C i (j + 1) = C i j + d + 1))
def upC (C : Nat → Nat → Int) (i j : Nat) (v : Int) : Nat → Nat → Int := fun r c => if r = i ∧ c = j then v else C r c
def movE (n : Nat) (C : Nat → Nat → Int) (m i j : Nat) : Int := match m with
  | 0 => dA C i (n - 1 - j)
  | 1 => dA C (n - 1 - j) i
  | 2 => dA C j i
  | _ => dA C (n - 1 - i) (n - 1 - j)
section XTAB
variable {w : XW} {a n : Nat} {C : Nat → Nat → Int}
theorem m_shift_out (h : tb w a n C) {zi zj d : Int} (hi : i32 zi) (hj : i32 zj) (ho : ¬ (1 ≤ zi ∧ zi ≤ n - 1 ∧ 1 ≤ zj ∧ zj ≤ n - 1)) : xm T_shift 0 [.ref a, .int (iI zi), .int (iI zj), .int (iI d)] w = some (.int (bI false), w) := by
  have hn := h.2.2.1
  rw [e_T_shift, q_T_shift_0, h.2.2.2.1, iI_sub]
  refine s_g (T_ok h.1) (s_I (m_isWithin hi (by omega) (by omega) w) ?_)
  by_cases h1 : 1 ≤ zi ∧ zi ≤ (n : Int) - 1
  · refine s_pt h1 (s_g (T_ok h.1) ?_)
    rw [h.2.2.2.1, iI_sub]
    refine s_I (m_isWithin hj (by omega) (by omega) w) (s_pf (by omega) ?_)
    rw [q_T_shift_28, xbz_0]
  · refine s_pf h1 ?_
    rw [q_T_shift_28, xbz_0]
theorem m_shift (h : tb w a n C) {zi zj d : Int} (i j : Nat) (hh : zi = i ∧ zj = j ∧ 1 ≤ i ∧ i < n ∧ 1 ≤ j ∧ j < n) (hd : d = 1 ∨ d = -1) : xm T_shift 0 [.ref a, .int (iI zi), .int (iI zj), .int (iI d)] w = some (.int (bI (canS C i j d)), if canS C i j d = true then xpI w (a + 1) (i * 11 + j) (iI (C i j + d)) else w) := by
  obtain ⟨rfl, rfl, hi, hi2, hj, hj2⟩ := hh
  have hn := h.2.2.1
  have hb := h.2.2.2.2.1
  have b0 := hb.bd (i := i) (j := j) (by omega) (by omega)
  have b1 := hb.bd (i := i - 1) (j := j) (by omega) (by omega)
  have b2 := hb.bd (i := i) (j := j - 1) (by omega) (by omega)
  have b3 := hb.bd (i := i + 1) (j := j) (by omega) (by omega)
  have b4 := hb.bd (i := i) (j := j + 1) (by omega) (by omega)
  rw [e_T_shift, q_T_shift_0, h.2.2.2.1, iI_sub]
  refine s_g (T_ok h.1) (s_I (m_isWithin (by omega) (by omega) (by omega) w) (s_pt (by omega) (s_g (T_ok h.1) ?_)))
  rw [h.2.2.2.1, iI_sub]
  refine s_I (m_isWithin (by omega) (by omega) (by omega) w) (s_pt (by omega) ?_)
  rw [q_T_shift_30]
  refine s_g (T_rv h.1) (s_I (m_corner h i j (by omega)) (s_g (T_rv h.1) ?_))
  simp only [iI_add, iI_sub]
  refine s_I (m_corner h (i - 1) j (by omega)) (s_I (m_rises (by omega) (by omega) w) ?_)
  by_cases h1 : C i j + d = C (i - 1) j ∨ C i j + d = C (i - 1) j + 1
  · refine s_pt h1 (s_g (T_rv h.1) (s_I (m_corner h i (j - 1) (by omega)) (s_I (m_rises (by omega) (by omega) w) ?_)))
    by_cases h2 : C i j + d = C i (j - 1) ∨ C i j + d = C i (j - 1) + 1
    · refine s_pt h2 (s_g (T_rv h.1) (s_I (m_corner h (i + 1) j (by omega)) (s_I (m_rises (by omega) (by omega) w) ?_)))
      by_cases h3 : C (i + 1) j = C i j + d ∨ C (i + 1) j = C i j + d + 1
      · refine s_pt h3 (s_g (T_rv h.1) (s_I (m_corner h i (j + 1) (by omega)) (s_I (m_rises (by omega) (by omega) w) ?_)))
        by_cases h4 : C i (j + 1) = C i j + d ∨ C i (j + 1) = C i j + d + 1
        · have hc : canS C i j d = true := decide_eq_true ⟨h1, h2, h3, h4⟩
          refine s_pt h4 ?_
          rw [q_T_shift_106, iI_mul, iI_add, hc, if_pos rfl]
          refine s_g (T_ok h.1) (s_o (h.2.1.T h.1) (s_g ?_ ?_))
          · rw [T_oa h.1]; exact xin_t (by omega)
          · rw [iI_nat (by omega), show ((i : Int) * 11 + (j : Int)).toNat = i * 11 + j by omega, xbz_1]
        · have hc : canS C i j d = false := decide_eq_false (fun q => h4 q.2.2.2)
          refine s_pf h4 ?_
          rw [q_T_shift_104, xbz_0, hc]; rfl
      · have hc : canS C i j d = false := decide_eq_false (fun q => h3 q.2.2.1)
        refine s_pf h3 ?_
        rw [q_T_shift_104, xbz_0, hc]; rfl
    · have hc : canS C i j d = false := decide_eq_false (fun q => h2 q.2.1)
      refine s_pf h2 ?_
      rw [q_T_shift_104, xbz_0, hc]; rfl
  · have hc : canS C i j d = false := decide_eq_false (fun q => h1 q.1)
    refine s_pf h1 ?_
    rw [q_T_shift_104, xbz_0, hc]; rfl
theorem m_movedEntry (h : tb w a n C) (m : Nat) {zm zi zj : Int} (i j : Nat) (hh : zm = m ∧ zi = i ∧ zj = j ∧ i < n ∧ j < n ∧ m ≤ 3) : xm T_movedEntry 0 [.ref a, .int (iI zm), .int (iI zi), .int (iI zj)] w = some (.int (iI (movE n C m i j)), w) := by
  obtain ⟨rfl, rfl, rfl, hi, hj, hm⟩ := hh
  have hn := h.2.2.1
  rw [e_T_movedEntry, q_T_movedEntry_0, h.2.2.2.1, iI_sub]
  refine s_g (T_ok h.1) ?_
  match m, hm with
  | 0, _ =>
    refine s_eqt rfl ?_
    rw [q_T_movedEntry_36, iI_sub]
    exact s_g (T_rv h.1) (s_I (m_entry h i (n - 1 - j) (by omega)) rfl)
  | 1, _ =>
    refine s_eqf (by omega) (s_eqt rfl ?_)
    rw [q_T_movedEntry_46, iI_sub]
    exact s_g (T_rv h.1) (s_I (m_entry h (n - 1 - j) i (by omega)) rfl)
  | 2, _ =>
    refine s_eqf (by omega) (s_eqf (by omega) (s_eqt rfl ?_))
    rw [q_T_movedEntry_56]
    exact s_g (T_rv h.1) (s_I (m_entry h j i (by omega)) rfl)
  | 3, _ =>
    refine s_eqf (by omega) (s_eqf (by omega) (s_eqf (by omega) ?_))
    rw [q_T_movedEntry_63, iI_sub, iI_sub]
    exact s_g (T_rv h.1) (s_I (m_entry h (n - 1 - i) (n - 1 - j) (by omega)) rfl)
def staysC (n : Nat) (C : Nat → Nat → Int) (m : Nat) : Bool := decide (∀ i, i < n → ∀ j, j < n → dA C i j = movE n C m i j)
theorem dA_bd (h : asm n C) {i j : Nat} (hi : i < n) (hj : j < n) : -1 ≤ dA C i j ∧ dA C i j ≤ 1 := by
  have h1 := h.2.2.2.2.1 i j hi (by omega)
  have h2 := h.2.2.2.2.1 i (j + 1) hi (by omega)
  unfold dA
  omega
theorem movE_bd (h : asm n C) {m i j : Nat} (hi : i < n) (hj : j < n) : -1 ≤ movE n C m i j ∧ movE n C m i j ≤ 1 := by
  unfold movE
  split
  · exact dA_bd h hi (by omega)
  · exact dA_bd h (by omega) hi
  · exact dA_bd h hj hi
  · exact dA_bd h (by omega) (by omega)
theorem m_staysWhen (h : tb w a n C) (m : Nat) {zm : Int} (hm : zm = m ∧ m ≤ 3) : xm T_staysWhen 0 [.ref a, .int (iI zm)] w = some (.int (bI (staysC n C m)), w) := by
  have hn := h.2.2.1
  rw [e_T_staysWhen, q_T_staysWhen_0]
  refine x_nest (fun (i : Nat) (_ : Unit) (u : Option Value) => xr T_staysWhen 0 2 [some (.ref a), some (.int (iI zm)), some (.int (iI i)), u] [] (0, 0) w)
    (fun (i j : Nat) (_ : Unit) (_ : Unit) => xr T_staysWhen 0 12 [some (.ref a), some (.int (iI zm)), some (.int (iI i)), some (.int (iI j))] [] (0, 0) w) n (fun _ => n)
    (fun i j _ => (∀ r, r < i → ∀ c, c < n → dA C r c = movE n C m r c) ∧ ∀ c, c < j → dA C i c = movE n C m i c) (fun o => o = some (.int (bI (staysC n C m)), w))
    (fun i s u hi hp => ⟨(), ?_⟩) (fun i j s v hi hj hp => ?_) (fun i s v hi hp => ⟨some (.int (iI n)), ?_, fun r hr c hc => ?_, fun c hc => absurd hc (Nat.not_lt_zero _)⟩) (fun s u hp => ?_) () none ⟨fun r hr => absurd hr (Nat.not_lt_zero _), fun c hc => absurd hc (Nat.not_lt_zero _)⟩
  · rw [q_T_staysWhen_2, h.2.2.2.1]
    exact s_g (T_ok h.1) (s_lef (by omega) rfl)
  · have b1 := dA_bd h.2.2.2.2.1 hi hj
    have b2 := movE_bd (m := m) h.2.2.2.2.1 hi hj
    by_cases hd : dA C i j = movE n C m i j
    · refine Or.inr ⟨(), (), ?_, hp.1, fun c hc => ?_⟩
      · rw [q_T_staysWhen_12, h.2.2.2.1]
        refine s_g (T_ok h.1) (s_lef (by omega) (s_g (T_rv h.1) (s_I (m_entry h i j (by omega)) (s_g (T_rv h.1) (s_I (m_movedEntry h m i j (by omega)) (s_eqt hd ?_))))))
        rw [q_T_staysWhen_38, iI_add]; rfl
      · rcases Nat.lt_or_ge c j with q | q
        · exact hp.2 c q
        · rw [show c = j by omega]; exact hd
    · refine Or.inl ?_
      rw [q_T_staysWhen_12, h.2.2.2.1]
      refine s_g (T_ok h.1) (s_lef (by omega) (s_g (T_rv h.1) (s_I (m_entry h i j (by omega)) (s_g (T_rv h.1) (s_I (m_movedEntry h m i j (by omega)) (s_eqf (by omega) ?_))))))
      rw [xbz_0, show staysC n C m = false from decide_eq_false (fun q => hd (q i hi j hj))]
  · rw [q_T_staysWhen_12, h.2.2.2.1]
    refine s_g (T_ok h.1) (s_let (by omega) ?_)
    rw [q_T_staysWhen_44, iI_add]; rfl
  · rcases Nat.lt_or_ge r i with q | q
    · exact hp.1 r q c hc
    · rw [show r = i by omega]; exact hp.2 c hc
  · rw [q_T_staysWhen_2, h.2.2.2.1]
    refine s_g (T_ok h.1) (s_let (by omega) ?_)
    rw [q_T_staysWhen_50, xbz_1, show staysC n C m = true from decide_eq_true hp.1]
def kindC (n : Nat) (C : Nat → Nat → Int) : Int := if lessC n C = 0 then 0 else if staysC n C 1 = true then 1 else if staysC n C 3 = true then 2 else if staysC n C 0 = true then 3 else 4
theorem lessC_bd (hn : n ≤ 10) (C : Nat → Nat → Int) : 0 ≤ lessC n C ∧ lessC n C ≤ 100 := by
  have h1 : ∀ i, 0 ≤ sumF (fun j => if dA C i j = -1 then 1 else 0) n ∧ sumF (fun j => if dA C i j = -1 then 1 else 0) n ≤ 10 := fun i => by
    have := sumF_bd (f := fun j => if dA C i j = -1 then 1 else 0) (n := n) (lo := 0) (hi := 1) (fun k _ => by split <;> omega)
    omega
  have := sumF_bd (f := fun i => sumF (fun j => if dA C i j = -1 then 1 else 0) n) (n := n) (lo := 0) (hi := 10) (fun k _ => h1 k)
  unfold lessC
  omega
theorem m_kindOf (h : tb w a n C) : xm T_kindOf 0 [.ref a] w = some (.int (iI (kindC n C)), w) := by
  have hn := h.2.2.1
  have hb := lessC_bd hn.2 C
  unfold kindC
  rw [e_T_kindOf, q_T_kindOf_0]
  refine s_g (T_rv h.1) (s_I (m_minusOnes h) ?_)
  rw [iI_zero]
  by_cases h0 : lessC n C = 0
  · refine s_eqt h0 ?_
    rw [if_pos h0]
  · refine s_eqf (by omega) ?_
    rw [if_neg h0, q_T_kindOf_9]
    refine s_g (T_rv h.1) (s_I (m_staysWhen h 1 (by omega)) ?_)
    cases h1 : staysC n C 1 with
    | true => exact s_bt rfl (by rw [if_pos rfl])
    | false =>
      refine s_bf rfl ?_
      rw [if_neg (by decide), q_T_kindOf_19]
      refine s_g (T_rv h.1) (s_I (m_staysWhen h 3 (by omega)) ?_)
      cases h3 : staysC n C 3 with
      | true => exact s_bt rfl (by rw [if_pos rfl])
      | false =>
        refine s_bf rfl ?_
        rw [if_neg (by decide), q_T_kindOf_29]
        refine s_g (T_rv h.1) (s_I (m_staysWhen h 0 (by omega)) ?_)
        cases h2 : staysC n C 0 with
        | true => exact s_bt rfl (by rw [if_pos rfl, q_T_kindOf_42])
        | false => exact s_bf rfl (by rw [if_neg (by decide), q_T_kindOf_41, q_T_kindOf_42])
end XTAB
