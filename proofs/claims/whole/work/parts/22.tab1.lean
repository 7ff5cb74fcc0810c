/-! ===== TABLES, 1 (own work): mathematics of corner sums; what the class's Table methods answer ===== -/
def asm (n : Nat) (C : Nat → Nat → Int) : Prop := (∀ j, j ≤ n → C 0 j = 0) ∧ (∀ i, i ≤ n → C i 0 = 0) ∧ (∀ j, j ≤ n → C n j = j) ∧ (∀ i, i ≤ n → C i n = i) ∧ (∀ i j, i < n → j ≤ n → C i j ≤ C (i + 1) j ∧ C (i + 1) j ≤ C i j + 1) ∧ (∀ i j, i ≤ n → j < n → C i j ≤ C i (j + 1) ∧ C i (j + 1) ≤ C i j + 1)
theorem asm.bd {n : Nat} {C : Nat → Nat → Int} (h : asm n C) {i j : Nat} (hi : i ≤ n) (hj : j ≤ n) : 0 ≤ C i j ∧ C i j ≤ i := by
  induction i with
  | zero => rw [h.1 j hj]; omega
  | succ i ih =>
    have h1 := ih (by omega)
    have h2 := h.2.2.2.2.1 i j (by omega) hj
    omega
def dA (C : Nat → Nat → Int) (i j : Nat) : Int := C (i + 1) (j + 1) - C i (j + 1) - (C (i + 1) j - C i j)
def eS (C : Nat → Nat → Int) (l : Bool) (i j : Nat) : Int := match l with
  | true => C (i + 1) j - C i j
  | false => C i (j + 1) - C i j
def eOk (n : Nat) (l : Bool) (i j : Nat) : Prop := match l with
  | true => i < n ∧ j ≤ n
  | false => i ≤ n ∧ j < n
theorem asm.edge {n : Nat} {C : Nat → Nat → Int} (h : asm n C) {l : Bool} {i j : Nat} (he : eOk n l i j) : eS C l i j = 0 ∨ eS C l i j = 1 := by
  cases l with
  | true => have := h.2.2.2.2.1 i j he.1 he.2; unfold eS; dsimp only; omega
  | false => have := h.2.2.2.2.2 i j he.1 he.2; unfold eS; dsimp only; omega
def hd (C : Nat → Nat → Int) (l : Bool) (i j : Nat) : Bool := decide (((i : Int) + j + eS C l i j) % 2 = (match l with
  | true => 0
  | false => 1))
abbrev i32 (a : Int) : Prop := -2147483648 ≤ a ∧ a < 2147483648
theorem iI_and1 (a : Int) : iI a &&& iI 1 = iI (a % 2) := by
  apply Int32.toBitVec_inj.1
  apply BitVec.eq_of_toNat_eq
  show ((iI a).toBitVec &&& (iI 1).toBitVec).toNat = (iI (a % 2)).toBitVec.toNat
  rw [BitVec.toNat_and]
  show (BitVec.ofInt 32 a).toNat &&& 1 = (BitVec.ofInt 32 (a % 2)).toNat
  rw [Nat.and_one_is_mod, BitVec.toNat_ofInt, BitVec.toNat_ofInt]
  omega
theorem m_isWithin {a b c : Int} (ha : i32 a) (hb : i32 b) (hc : i32 c) (w : XW) : xm B_isWithin 0 [.int (iI a), .int (iI b), .int (iI c)] w = some (.int (bI (decide (b ≤ a ∧ a ≤ c))), w) := by
  rw [e_B_isWithin, q_B_isWithin_0]
  by_cases h1 : a < b
  · refine s_ltt (by omega) ?_
    rw [q_B_isWithin_14, q_B_isWithin_15, xbz_0, decide_eq_false (by omega)]
  · refine s_ltf (by omega) ?_
    by_cases h2 : c < a
    · refine s_ltt (by omega) ?_
      rw [q_B_isWithin_14, q_B_isWithin_15, xbz_0, decide_eq_false (by omega)]
    · refine s_ltf (by omega) ?_
      rw [q_B_isWithin_15, xbz_1, decide_eq_true (by omega)]
def tb (w : XW) (a n : Nat) (C : Nat → Nat → Int) : Prop := isT a ∧ XG w ∧ (1 ≤ n ∧ n ≤ 10) ∧ xIF w a 1 = iI n ∧ asm n C ∧ ∀ i j, i ≤ n → j ≤ n → xIA w (a + 1) (i * 11 + j) = iI (C i j)
theorem m_corner0 {w : XW} {a : Nat} (hG : XG w) (ha : isT a) {zi zj : Int} (i j : Nat) (hh : zi = i ∧ zj = j ∧ i ≤ 10 ∧ j ≤ 10) : xm T_corner 0 [.ref a, .int (iI zi), .int (iI zj)] w = some (.int (xIA w (a + 1) (i * 11 + j)), w) := by
  obtain ⟨rfl, rfl, hi, hj⟩ := hh
  rw [e_T_corner, q_T_corner_0, iI_mul, iI_add]
  refine s_g (T_ok ha) (s_o (hG.T ha) (s_g ?_ ?_))
  · rw [T_oa ha]; exact xin_t (by omega)
  · rw [iI_nat (by omega)]
    have : ((i : Int) * 11 + (j : Int)).toNat = i * 11 + j := by omega
    rw [this]
section XTAB
variable {w : XW} {a n : Nat} {C : Nat → Nat → Int}
theorem m_corner (h : tb w a n C) {zi zj : Int} (i j : Nat) (hh : zi = i ∧ zj = j ∧ i ≤ n ∧ j ≤ n) : xm T_corner 0 [.ref a, .int (iI zi), .int (iI zj)] w = some (.int (iI (C i j)), w) := by
  have hn := h.2.2.1
  rw [m_corner0 h.2.1 h.1 i j (by omega), h.2.2.2.2.2 i j (by omega) (by omega)]
theorem m_cel (h : tb w a n C) {z : Int} (i j : Nat) (hh : z = (i : Int) * 11 + j ∧ i ≤ n ∧ j ≤ n) : xoa w (a + 1) 1 (iI z) = true ∧ xIA w (a + 1) (iI z).toNatClampNeg = iI (C i j) := by
  obtain ⟨rfl, hi, hj⟩ := hh
  have hn := h.2.2.1
  refine ⟨?_, ?_⟩
  · rw [T_oa h.1]; exact xin_t (by omega)
  · rw [iI_nat (by omega), show ((i : Int) * 11 + (j : Int)).toNat = i * 11 + j by omega]
    exact h.2.2.2.2.2 i j hi hj
theorem m_edge (h : tb w a n C) (l : Bool) {x : Int32} (hx : x = bI l) {zi zj : Int} (i j : Nat) (hh : zi = i ∧ zj = j) (he : eOk n l i j) : xm T_edgeSum 0 [.ref a, .int x, .int (iI zi), .int (iI zj)] w = some (.int (iI (eS C l i j)), w) := by
  subst hx
  obtain ⟨rfl, rfl⟩ := hh
  rw [e_T_edgeSum, q_T_edgeSum_0]
  refine s_g (T_ok h.1) (s_o (h.2.1.T h.1) ?_)
  cases l with
  | true =>
    obtain ⟨h1, h2⟩ := he
    have e1 := m_cel h (z := (i : Int) * 11 + j + 11) (i + 1) j (by omega)
    have e0 := m_cel h (z := (i : Int) * 11 + j) i j (by omega)
    refine s_bt rfl ?_
    rw [q_T_edgeSum_28, iI_mul, iI_add, iI_add]
    refine s_g e1.1 (s_g (T_ok h.1) (s_o (h.2.1.T h.1) (s_g e0.1 ?_)))
    rw [e1.2, e0.2, iI_sub]; rfl
  | false =>
    obtain ⟨h1, h2⟩ := he
    have e1 := m_cel h (z := (i : Int) * 11 + j + 1) i (j + 1) (by omega)
    have e0 := m_cel h (z := (i : Int) * 11 + j) i j (by omega)
    refine s_bf rfl ?_
    rw [q_T_edgeSum_24, q_T_edgeSum_28, iI_mul, iI_add, iI_add]
    refine s_g e1.1 (s_g (T_ok h.1) (s_o (h.2.1.T h.1) (s_g e0.1 ?_)))
    rw [e1.2, e0.2, iI_sub]; rfl
theorem m_entry (h : tb w a n C) {zi zj : Int} (i j : Nat) (hh : zi = i ∧ zj = j ∧ i < n ∧ j < n) : xm T_entry 0 [.ref a, .int (iI zi), .int (iI zj)] w = some (.int (iI (dA C i j)), w) := by
  rw [e_T_entry, q_T_entry_0, iI_add]
  refine s_g (T_rv h.1) (s_I (m_edge h true rfl i (j + 1) (by omega) (show i < n ∧ j + 1 ≤ n by omega)) ?_)
  refine s_g (T_rv h.1) (s_I (m_edge h true rfl i j (by omega) (show i < n ∧ j ≤ n by omega)) ?_)
  rw [iI_sub]; rfl
theorem m_holds (h : tb w a n C) (l : Bool) {x : Int32} (hx : x = bI l) {zi zj : Int} (i j : Nat) (hh : zi = i ∧ zj = j) (he : eOk n l i j) : xm T_holds 0 [.ref a, .int x, .int (iI zi), .int (iI zj)] w = some (.int (bI (hd C l i j)), w) := by
  subst hx
  rw [e_T_holds, q_T_holds_0]
  refine s_g (T_rv h.1) (s_I (m_edge h l rfl i j hh he) ?_)
  obtain ⟨rfl, rfl⟩ := hh
  simp only [iI_add, iI_and1]
  have h2 := Int.emod_two_eq ((i : Int) + j + eS C l i j)
  cases l with
  | true =>
    refine s_bt rfl ?_
    rw [q_T_holds_26]
    unfold hd
    by_cases hq : ((i : Int) + j + eS C true i j) % 2 = 0
    · refine s_eqt hq ?_
      rw [q_T_holds_34, xbz_1, decide_eq_true hq]
    · refine s_eqf (by omega) ?_
      rw [q_T_holds_33, q_T_holds_34, xbz_0, decide_eq_false hq]
  | false =>
    refine s_bf rfl ?_
    rw [q_T_holds_25, q_T_holds_26]
    unfold hd
    by_cases hq : ((i : Int) + j + eS C false i j) % 2 = 1
    · refine s_eqt hq ?_
      rw [q_T_holds_34, xbz_1, decide_eq_true hq]
    · refine s_eqf (by omega) ?_
      rw [q_T_holds_33, q_T_holds_34, xbz_0, decide_eq_false hq]
def hasE (n : Nat) (l : Bool) (zi zj : Int) : Bool := match l with
  | true => decide (0 ≤ zi ∧ zi ≤ n - 1) && decide (0 ≤ zj ∧ zj ≤ n)
  | false => decide (0 ≤ zi ∧ zi ≤ n) && decide (0 ≤ zj ∧ zj ≤ n - 1)
theorem m_hasEdge (h : tb w a n C) (l : Bool) {zi zj : Int} (hi : i32 zi) (hj : i32 zj) : xm T_hasEdge 0 [.ref a, .int (bI l), .int (iI zi), .int (iI zj)] w = some (.int (bI (hasE n l zi zj)), w) := by
  have hn := h.2.2.1
  rw [e_T_hasEdge, q_T_hasEdge_0]
  cases l with
  | true =>
    refine s_bt rfl (s_g (T_ok h.1) ?_)
    rw [h.2.2.2.1, iI_sub, q_T_hasEdge_19]
    refine s_I (m_isWithin hi (by omega) (by omega) w) ?_
    unfold hasE
    by_cases h1 : 0 ≤ zi ∧ zi ≤ (n : Int) - 1
    · refine s_pt h1 (s_bt rfl (s_g (T_ok h.1) ?_))
      rw [h.2.2.2.1, q_T_hasEdge_44]
      refine s_I (m_isWithin hj (by omega) (by omega) w) ?_
      by_cases h2 : 0 ≤ zj ∧ zj ≤ (n : Int)
      · refine s_pt h2 ?_
        rw [q_T_hasEdge_55, xbz_1]
        simp only [h1, h2, and_self, decide_true, Bool.and_self]
      · refine s_pf h2 ?_
        rw [q_T_hasEdge_54, q_T_hasEdge_55, xbz_0]
        simp only [h2, decide_false, Bool.and_false]
    · refine s_pf h1 ?_
      rw [q_T_hasEdge_54, q_T_hasEdge_55, xbz_0]
      simp only [h1, decide_false, Bool.false_and]
  | false =>
    refine s_bf rfl ?_
    rw [q_T_hasEdge_15]
    refine s_g (T_ok h.1) ?_
    rw [h.2.2.2.1, q_T_hasEdge_19]
    refine s_I (m_isWithin hi (by omega) (by omega) w) ?_
    unfold hasE
    by_cases h1 : 0 ≤ zi ∧ zi ≤ (n : Int)
    · refine s_pt h1 (s_bf rfl ?_)
      rw [q_T_hasEdge_38]
      refine s_g (T_ok h.1) ?_
      rw [h.2.2.2.1, iI_sub, q_T_hasEdge_44]
      refine s_I (m_isWithin hj (by omega) (by omega) w) ?_
      by_cases h2 : 0 ≤ zj ∧ zj ≤ (n : Int) - 1
      · refine s_pt h2 ?_
        rw [q_T_hasEdge_55, xbz_1]
        simp only [h1, h2, and_self, decide_true, Bool.and_self]
      · refine s_pf h2 ?_
        rw [q_T_hasEdge_54, q_T_hasEdge_55, xbz_0]
        simp only [h2, decide_false, Bool.and_false]
    · refine s_pf h1 ?_
      rw [q_T_hasEdge_54, q_T_hasEdge_55, xbz_0]
      simp only [h1, decide_false, Bool.false_and]
def accF (S : Int) (f : Nat → Int) : Nat → Int
  | 0 => S
  | k + 1 => accF S f k + f k
theorem accF_sum (S : Int) (f : Nat → Int) (k : Nat) : accF S f k = S + sumF f k := by
  induction k with
  | zero => exact (Int.add_zero S).symm
  | succ k ih => show accF S f k + f k = S + (sumF f k + f k); rw [ih]; omega
def lessC (n : Nat) (C : Nat → Nat → Int) : Int := sumF (fun i => sumF (fun j => if dA C i j = -1 then 1 else 0) n) n
theorem m_minusOnes (h : tb w a n C) : xm T_minusOnes 0 [.ref a] w = some (.int (iI (lessC n C)), w) := by
  have hn := h.2.2.1
  rw [e_T_minusOnes, q_T_minusOnes_0]
  refine x_nest (fun (i : Nat) (s : Int) (u : Option Value) => xr T_minusOnes 0 4 [some (.ref a), some (.int (iI s)), some (.int (iI i)), u] [] (0, 0) w)
    (fun (i j : Nat) (s : Int) (_ : Unit) => xr T_minusOnes 0 14 [some (.ref a), some (.int (iI s)), some (.int (iI i)), some (.int (iI j))] [] (0, 0) w) n (fun _ => n)
    (fun i j s => s = sumF (fun i => sumF (fun j => if dA C i j = -1 then 1 else 0) n) i + sumF (fun j => if dA C i j = -1 then 1 else 0) j) (fun o => o = some (.int (iI (lessC n C)), w))
    (fun i s u hi hp => ⟨(), ?_⟩) (fun i j s v hi hj hp => Or.inr ?_) (fun i s v hi hp => ⟨some (.int (iI n)), ?_⟩) (fun s u hp => ?_) 0 none rfl
  · rw [q_T_minusOnes_4, h.2.2.2.1]
    exact s_g (T_ok h.1) (s_lef (by omega) rfl)
  · have h1 := h.2.2.2.2.1.edge (l := true) (i := i) (j := j) ⟨hi, by omega⟩
    have h2 := h.2.2.2.2.1.edge (l := true) (i := i) (j := j + 1) ⟨hi, by omega⟩
    have h3 : dA C i j = eS C true i (j + 1) - eS C true i j := rfl
    refine ⟨s + (if dA C i j = -1 then 1 else 0), (), ?_, ?_⟩
    · rw [q_T_minusOnes_14, h.2.2.2.1]
      refine s_g (T_ok h.1) (s_lef (by omega) (s_g (T_rv h.1) (s_I (m_entry h i j (by omega)) ?_)))
      by_cases hd : dA C i j = -1
      · refine s_eqt hd ?_
        rw [q_T_minusOnes_35, iI_add, iI_add, if_pos hd]; rfl
      · refine s_eqf (by omega) ?_
        rw [q_T_minusOnes_35, iI_add, if_neg hd, Int.add_zero]; rfl
    · rw [hp, Int.add_assoc]; rfl
  · constructor
    · rw [q_T_minusOnes_14, h.2.2.2.1]
      refine s_g (T_ok h.1) (s_let (by omega) ?_)
      rw [q_T_minusOnes_41, iI_add]; rfl
    · rw [hp]; exact (Int.add_zero _).symm
  · rw [q_T_minusOnes_4, h.2.2.2.1]
    refine s_g (T_ok h.1) (s_let (by omega) ?_)
    rw [q_T_minusOnes_47, hp]
    rw [show lessC n C = sumF (fun i => sumF (fun j => if dA C i j = -1 then 1 else 0) n) n + sumF (fun j => if dA C n j = -1 then 1 else 0) 0 from (Int.add_zero _).symm]
end XTAB
