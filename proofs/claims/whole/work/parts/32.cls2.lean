/-! ===== THE CLASS, 2 (own work): reads, steps, moves ===== -/
section XCLS
variable {w : XW} {A : AS}
def o_size (A : AS) (z : Int) : Int := if 0 ≤ z ∧ z < 8 then (A.1 z.toNat : Nat) else -1
theorem c_size (h : IC w A) {z : Int} (hz : i32 z) : xm B_size 0 [.ref 0, .int (iI z)] w = some (.int (iI (o_size A z)), w) := by
  rw [e_B_size, q_B_size_0]
  unfold o_size
  by_cases h1 : 0 ≤ z ∧ z < 8
  · have t := (h.2.1 z.toNat (by omega)).1
    rw [if_pos h1]
    refine s_g rfl (s_A (c_tab h.1 z.toNat (by omega)) (s_g rfl (s_g rfl (s_nr ?_))))
    rw [q_B_size_14]
    refine s_g rfl (s_de (s_g (T_ok t.1) ?_))
    rw [q_B_size_18, t.2.2.2.1]
  · rw [if_neg h1]
    refine s_g rfl (s_An (c_tabN hz h1) (s_g rfl (s_g rfl (s_nn ?_))))
    rw [q_B_size_18]
def o_at (A : AS) (z zi zj : Int) : Int := if 0 ≤ z ∧ z < 8 then (if (0 ≤ zi ∧ zi ≤ (A.1 z.toNat : Int) - 1) ∧ (0 ≤ zj ∧ zj ≤ (A.1 z.toNat : Int) - 1) then dA (A.2.1 z.toNat) zi.toNat zj.toNat else 0) else -1
theorem c_at (h : IC w A) {z zi zj : Int} (hz : i32 z) (hi : i32 zi) (hj : i32 zj) : xm B_at 0 [.ref 0, .int (iI z), .int (iI zi), .int (iI zj)] w = some (.int (iI (o_at A z zi zj)), w) := by
  rw [e_B_at, q_B_at_0]
  unfold o_at
  by_cases h1 : 0 ≤ z ∧ z < 8
  · have t := (h.2.1 z.toNat (by omega)).1
    have tn := t.2.2.1
    rw [if_pos h1]
    refine s_g rfl (s_A (c_tab h.1 z.toNat (by omega)) (s_g rfl (s_g rfl (s_nr ?_))))
    rw [q_B_at_14]
    refine s_g rfl (s_de (s_g (T_ok t.1) ?_))
    rw [t.2.2.2.1, iI_sub]
    refine s_I (m_isWithin hi (by omega) (by omega) w) ?_
    by_cases h2 : 0 ≤ zi ∧ zi ≤ (A.1 z.toNat : Int) - 1
    · refine s_pt h2 (s_g rfl (s_de (s_g (T_ok t.1) ?_)))
      rw [t.2.2.2.1, iI_sub]
      refine s_I (m_isWithin hj (by omega) (by omega) w) ?_
      by_cases h3 : 0 ≤ zj ∧ zj ≤ (A.1 z.toNat : Int) - 1
      · refine s_pt h3 (s_g rfl (s_g (T_rv t.1) (s_I (m_entry t zi.toNat zj.toNat (by omega)) ?_)))
        rw [if_pos ⟨h2, h3⟩]
        rw [q_B_at_55]
      · refine s_pf h3 ?_
        rw [if_neg (fun q => h3 q.2)]
        rw [q_B_at_54, q_B_at_55]
    · refine s_pf h2 ?_
      rw [if_neg (fun q => h2 q.1)]
      rw [q_B_at_54, q_B_at_55]
  · rw [if_neg h1]
    exact s_g rfl (s_An (c_tabN hz h1) (s_g rfl (s_g rfl (s_nn rfl))))
def o_sum (A : AS) (z zi zj : Int) : Int := if (0 ≤ z ∧ z < 8) ∧ (0 ≤ zi ∧ zi ≤ (A.1 z.toNat : Int)) ∧ (0 ≤ zj ∧ zj ≤ (A.1 z.toNat : Int)) then A.2.1 z.toNat zi.toNat zj.toNat else -1
theorem c_sum (h : IC w A) {z zi zj : Int} (hz : i32 z) (hi : i32 zi) (hj : i32 zj) : xm B_sum 0 [.ref 0, .int (iI z), .int (iI zi), .int (iI zj)] w = some (.int (iI (o_sum A z zi zj)), w) := by
  rw [e_B_sum, q_B_sum_0]
  unfold o_sum
  by_cases h1 : 0 ≤ z ∧ z < 8
  · have t := (h.2.1 z.toNat (by omega)).1
    have tn := t.2.2.1
    refine s_g rfl (s_A (c_tab h.1 z.toNat (by omega)) (s_g rfl (s_g rfl (s_nr (s_g rfl (s_de (s_g (T_ok t.1) ?_)))))))
    rw [t.2.2.2.1]
    refine s_I (m_isWithin hi (by omega) (by omega) w) ?_
    by_cases h2 : 0 ≤ zi ∧ zi ≤ (A.1 z.toNat : Int)
    · refine s_pt h2 (s_g rfl (s_de (s_g (T_ok t.1) ?_)))
      rw [t.2.2.2.1]
      refine s_I (m_isWithin hj (by omega) (by omega) w) ?_
      by_cases h3 : 0 ≤ zj ∧ zj ≤ (A.1 z.toNat : Int)
      · refine s_pt h3 ?_
        rw [if_pos ⟨h1, h2, h3⟩]
        rw [q_B_sum_40]
        exact s_g rfl (s_g (T_rv t.1) (s_I (m_corner t zi.toNat zj.toNat (by omega)) rfl))
      · refine s_pf h3 ?_
        rw [if_neg (fun q => h3 q.2.2)]
        rw [q_B_sum_38]
    · refine s_pf h2 ?_
      rw [if_neg (fun q => h2 q.2.1)]
      rw [q_B_sum_38]
  · rw [if_neg (fun q => h1 q.1)]
    refine s_g rfl (s_An (c_tabN hz h1) (s_g rfl (s_g rfl (s_nn ?_))))
    rw [q_B_sum_38]
def o_tri (A : AS) (z zi zj : Int) : Int := if (0 ≤ z ∧ z < 8) ∧ (1 ≤ zi ∧ zi ≤ (A.1 z.toNat : Int)) ∧ (0 ≤ zj ∧ zj ≤ zi - 1) then triC (A.1 z.toNat) (A.2.1 z.toNat) zi.toNat zj else -1
theorem c_tri (h : IC w A) {z zi zj : Int} (hz : i32 z) (hi : i32 zi) (hj : i32 zj) : xm B_triangle 0 [.ref 0, .int (iI z), .int (iI zi), .int (iI zj)] w = some (.int (iI (o_tri A z zi zj)), w) := by
  rw [e_B_triangle, q_B_triangle_0]
  unfold o_tri
  by_cases h1 : 0 ≤ z ∧ z < 8
  · have t := (h.2.1 z.toNat (by omega)).1
    have tn := t.2.2.1
    refine s_g rfl (s_A (c_tab h.1 z.toNat (by omega)) (s_g rfl (s_g rfl (s_nr (s_g rfl (s_de (s_g (T_ok t.1) ?_)))))))
    rw [t.2.2.2.1]
    refine s_I (m_isWithin hi (by omega) (by omega) w) ?_
    by_cases h2 : 1 ≤ zi ∧ zi ≤ (A.1 z.toNat : Int)
    · refine s_pt h2 ?_
      rw [iI_sub]
      refine s_I (m_isWithin hj (by omega) (by omega) w) ?_
      by_cases h3 : 0 ≤ zj ∧ zj ≤ zi - 1
      · refine s_pt h3 ?_
        rw [if_pos ⟨h1, h2, h3⟩]
        rw [q_B_triangle_38]
        exact s_g rfl (s_g (T_rv t.1) (s_I (m_triangleColumn t zi.toNat (by omega) hj) rfl))
      · refine s_pf h3 ?_
        rw [if_neg (fun q => h3 q.2.2)]
        rw [q_B_triangle_36]
    · refine s_pf h2 ?_
      rw [if_neg (fun q => h2 q.2.1)]
      rw [q_B_triangle_36]
  · rw [if_neg (fun q => h1 q.1)]
    refine s_g rfl (s_An (c_tabN hz h1) (s_g rfl (s_g rfl (s_nn ?_))))
    rw [q_B_triangle_36]
theorem hasE_ok {n : Nat} {l : Bool} {zi zj : Int} (h : hasE n l zi zj = true) : (zi = zi.toNat ∧ zj = zj.toNat) ∧ eOk n l zi.toNat zj.toNat := by
  unfold hasE at h
  unfold eOk
  cases l <;> simp only [Bool.and_eq_true, decide_eq_true_eq] at h <;> dsimp only <;> omega
def o_arrow (A : AS) (z : Int) (l : Bool) (zi zj : Int) : Int := if 0 ≤ z ∧ z < 8 then (if hasE (A.1 z.toNat) l zi zj = true then (if eS (A.2.1 z.toNat) l zi.toNat zj.toNat = 0 then 1 else -1) else 0) else -1
theorem c_arrow (h : IC w A) {z zi zj : Int} (l : Bool) (hz : i32 z) (hi : i32 zi) (hj : i32 zj) : xm B_arrow 0 [.ref 0, .int (iI z), .int (bI l), .int (iI zi), .int (iI zj)] w = some (.int (iI (o_arrow A z l zi zj)), w) := by
  rw [e_B_arrow, q_B_arrow_0]
  unfold o_arrow
  by_cases h1 : 0 ≤ z ∧ z < 8
  · have t := (h.2.1 z.toNat (by omega)).1
    rw [if_pos h1]
    refine s_g rfl (s_A (c_tab h.1 z.toNat (by omega)) (s_g rfl (s_g rfl (s_nr ?_))))
    rw [q_B_arrow_14]
    refine s_g rfl (s_g (T_rv t.1) (s_I (m_hasEdge t l hi hj) ?_))
    cases hh : hasE (A.1 z.toNat) l zi zj with
    | true =>
      obtain ⟨e1, e2⟩ := hasE_ok hh
      refine s_bt rfl ?_
      rw [if_pos rfl]
      rw [q_B_arrow_28]
      refine s_g rfl (s_g (T_rv t.1) (s_I (m_edge t l rfl zi.toNat zj.toNat e1 e2) ?_))
      have b := t.2.2.2.2.1.edge e2
      rw [iI_zero]
      by_cases h3 : eS (A.2.1 z.toNat) l zi.toNat zj.toNat = 0
      · refine s_eqt h3 ?_
        rw [if_pos h3]
        rw [q_B_arrow_45]
      · refine s_eqf (by omega) ?_
        rw [if_neg h3]
        rw [q_B_arrow_44, q_B_arrow_45]
    | false =>
      refine s_bf rfl ?_
      rw [if_neg (by decide)]
  · rw [if_neg h1]
    exact s_g rfl (s_An (c_tabN hz h1) (s_g rfl (s_g rfl (s_nn rfl))))
def o_held (A : AS) (z : Int) (l : Bool) (zi zj : Int) : Int := if 0 ≤ z ∧ z < 8 then (if hasE (A.1 z.toNat) l zi zj = true then (if hd (A.2.1 z.toNat) l zi.toNat zj.toNat = true then 1 else 0) else -1) else -1
theorem c_held (h : IC w A) {z zi zj : Int} (l : Bool) (hz : i32 z) (hi : i32 zi) (hj : i32 zj) : xm B_held 0 [.ref 0, .int (iI z), .int (bI l), .int (iI zi), .int (iI zj)] w = some (.int (iI (o_held A z l zi zj)), w) := by
  rw [e_B_held, q_B_held_0]
  unfold o_held
  by_cases h1 : 0 ≤ z ∧ z < 8
  · have t := (h.2.1 z.toNat (by omega)).1
    rw [if_pos h1]
    refine s_g rfl (s_A (c_tab h.1 z.toNat (by omega)) (s_g rfl (s_g rfl (s_nr (s_g rfl (s_g (T_rv t.1) (s_I (m_hasEdge t l hi hj) ?_)))))))
    cases hh : hasE (A.1 z.toNat) l zi zj with
    | true =>
      obtain ⟨e1, e2⟩ := hasE_ok hh
      refine s_bt rfl ?_
      rw [if_pos rfl]
      rw [q_B_held_26]
      refine s_g rfl (s_g (T_rv t.1) (s_I (m_holds t l rfl zi.toNat zj.toNat e1 e2) ?_))
      cases h3 : hd (A.2.1 z.toNat) l zi.toNat zj.toNat with
      | true =>
        refine s_bt rfl ?_
        rw [if_pos rfl]
        rw [q_B_held_43]
      | false =>
        refine s_bf rfl ?_
        rw [if_neg (by decide)]
        rw [q_B_held_42, q_B_held_43]
    | false =>
      refine s_bf rfl ?_
      rw [if_neg (by decide)]
      rw [q_B_held_24]
  · rw [if_neg h1]
    refine s_g rfl (s_An (c_tabN hz h1) (s_g rfl (s_g rfl (s_nn ?_))))
    rw [q_B_held_24]
def o_kind (A : AS) (z : Int) : Int := if 0 ≤ z ∧ z < 8 then kindC (A.1 z.toNat) (A.2.1 z.toNat) else -1
theorem c_kind (h : IC w A) {z : Int} (hz : i32 z) : xm B_kind 0 [.ref 0, .int (iI z)] w = some (.int (iI (o_kind A z)), w) := by
  rw [e_B_kind, q_B_kind_0]
  unfold o_kind
  by_cases h1 : 0 ≤ z ∧ z < 8
  · have t := (h.2.1 z.toNat (by omega)).1
    rw [if_pos h1]
    refine s_g rfl (s_A (c_tab h.1 z.toNat (by omega)) (s_g rfl (s_g rfl (s_nr ?_))))
    rw [q_B_kind_14]
    refine s_g rfl (s_g (T_rv t.1) (s_I (m_kindOf t) ?_))
    rw [q_B_kind_18]
  · rw [if_neg h1]
    refine s_g rfl (s_An (c_tabN hz h1) (s_g rfl (s_g rfl (s_nn ?_))))
    rw [q_B_kind_18]
def o_less (A : AS) (z : Int) : Int := if 0 ≤ z ∧ z < 8 then lessC (A.1 z.toNat) (A.2.1 z.toNat) else -1
theorem c_less (h : IC w A) {z : Int} (hz : i32 z) : xm B_less 0 [.ref 0, .int (iI z)] w = some (.int (iI (o_less A z)), w) := by
  rw [e_B_less, q_B_less_0]
  unfold o_less
  by_cases h1 : 0 ≤ z ∧ z < 8
  · have t := (h.2.1 z.toNat (by omega)).1
    rw [if_pos h1]
    refine s_g rfl (s_A (c_tab h.1 z.toNat (by omega)) (s_g rfl (s_g rfl (s_nr ?_))))
    rw [q_B_less_14]
    refine s_g rfl (s_g (T_rv t.1) (s_I (m_minusOnes t) ?_))
    rw [q_B_less_18]
  · rw [if_neg h1]
    refine s_g rfl (s_An (c_tabN hz h1) (s_g rfl (s_g rfl (s_nn ?_))))
    rw [q_B_less_18]
def o_meet (A : AS) (g : Bool) (z a b : Int) : Bool × AS := if (0 ≤ z ∧ z < 8) ∧ ((0 ≤ a ∧ a < 8) ∧ (0 ≤ b ∧ b < 8) ∧ A.1 a.toNat = A.1 b.toNat) then (true, setT A z.toNat (A.1 a.toNat) (mxC g (A.2.1 a.toNat) (A.2.1 b.toNat))) else (false, A)
theorem c_place (hG : XG w) {z : Int} (hz : 0 ≤ z ∧ z < 8) : xRF w 0 0 = some 1 ∧ xoa w 1 4 (iI z) = true ∧ xRA w 1 (iI z).toNatClampNeg = some (18 + 2 * z.toNat) := by
  refine ⟨hG.r (by decide) rfl, xin_t (n := 8) (by omega), ?_⟩
  rw [iI_nat (by omega)]
  exact hG.2.2 z.toNat (by omega)
theorem c_both (h : IC w A) {z a b : Int} (hz : i32 z) (ha : i32 a) (hb : i32 b) : ∃ w', xm B_both 0 [.ref 0, .int (iI z), .int (iI a), .int (iI b)] w = some (.int (bI (o_meet A true z a b).1), w') ∧ IC w' (o_meet A true z a b).2 ∧ xFr cT w w' := by
  rw [e_B_both, q_B_both_0]
  by_cases h1 : 0 ≤ z ∧ z < 8
  · by_cases h2 : (0 ≤ a ∧ a < 8) ∧ (0 ≤ b ∧ b < 8) ∧ A.1 a.toNat = A.1 b.toNat
    · obtain ⟨g1, g2, g3⟩ := h2
      have ta := h.2.1 a.toNat (by omega)
      have tb' := h.2.1 b.toNat (by omega)
      rw [← g3] at tb'
      obtain ⟨w', k1, k2, k3, k4⟩ := m_becomeExtreme true (x := iI 1) rfl (isT_p (p := z.toNat) (by omega)) ta.1 tb'.1 ta.2 tb'.2
      rw [show o_meet A true z a b = (true, setT A z.toNat (A.1 a.toNat) (mxC true (A.2.1 a.toNat) (A.2.1 b.toNat))) from if_pos ⟨h1, g1, g2, g3⟩]
      refine ⟨w', s_g rfl (s_A (c_tab h.1 z.toNat (by omega)) (s_g rfl (s_g rfl (s_nr (s_g rfl (s_I (c_oneSize h ha hb) (s_pt ⟨g1, g2, g3⟩ ?_))))))), IC_set h (by omega) k2 k3 k4, fr_cT (by omega) k2⟩
      obtain ⟨p1, p2, p3⟩ := c_place h.1 g1
      obtain ⟨p4, p5, p6⟩ := c_place h.1 g2
      rw [q_B_both_23]
      refine s_g rfl (s_g rfl (s_o p1 (s_g p2 (s_o p3 (s_g rfl (s_o p4 (s_g p5 (s_o p6 (s_g (T_rv (isT_p (by omega))) (s_V k1 ?_))))))))))
      rw [xbz_1]
    · rw [show o_meet A true z a b = (false, A) from if_neg (fun q => h2 q.2)]
      refine ⟨w, s_g rfl (s_A (c_tab h.1 z.toNat (by omega)) (s_g rfl (s_g rfl (s_nr (s_g rfl (s_I (c_oneSize h ha hb) (s_pf h2 ?_))))))), h, xFr.rf _ _⟩
      rw [q_B_both_21, xbz_0]
  · rw [show o_meet A true z a b = (false, A) from if_neg (fun q => h1 q.1)]
    refine ⟨w, s_g rfl (s_An (c_tabN hz h1) (s_g rfl (s_g rfl (s_nn ?_)))), h, xFr.rf _ _⟩
    rw [q_B_both_21, xbz_0]
theorem c_either (h : IC w A) {z a b : Int} (hz : i32 z) (ha : i32 a) (hb : i32 b) : ∃ w', xm B_either 0 [.ref 0, .int (iI z), .int (iI a), .int (iI b)] w = some (.int (bI (o_meet A false z a b).1), w') ∧ IC w' (o_meet A false z a b).2 ∧ xFr cT w w' := by
  rw [e_B_either, q_B_either_0]
  by_cases h1 : 0 ≤ z ∧ z < 8
  · by_cases h2 : (0 ≤ a ∧ a < 8) ∧ (0 ≤ b ∧ b < 8) ∧ A.1 a.toNat = A.1 b.toNat
    · obtain ⟨g1, g2, g3⟩ := h2
      have ta := h.2.1 a.toNat (by omega)
      have tb' := h.2.1 b.toNat (by omega)
      rw [← g3] at tb'
      obtain ⟨w', k1, k2, k3, k4⟩ := m_becomeExtreme false (x := iI 0) rfl (isT_p (p := z.toNat) (by omega)) ta.1 tb'.1 ta.2 tb'.2
      rw [show o_meet A false z a b = (true, setT A z.toNat (A.1 a.toNat) (mxC false (A.2.1 a.toNat) (A.2.1 b.toNat))) from if_pos ⟨h1, g1, g2, g3⟩]
      refine ⟨w', s_g rfl (s_A (c_tab h.1 z.toNat (by omega)) (s_g rfl (s_g rfl (s_nr (s_g rfl (s_I (c_oneSize h ha hb) (s_pt ⟨g1, g2, g3⟩ ?_))))))), IC_set h (by omega) k2 k3 k4, fr_cT (by omega) k2⟩
      obtain ⟨p1, p2, p3⟩ := c_place h.1 g1
      obtain ⟨p4, p5, p6⟩ := c_place h.1 g2
      rw [q_B_either_23]
      refine s_g rfl (s_g rfl (s_o p1 (s_g p2 (s_o p3 (s_g rfl (s_o p4 (s_g p5 (s_o p6 (s_g (T_rv (isT_p (by omega))) (s_V k1 ?_))))))))))
      rw [xbz_1]
    · rw [show o_meet A false z a b = (false, A) from if_neg (fun q => h2 q.2)]
      refine ⟨w, s_g rfl (s_A (c_tab h.1 z.toNat (by omega)) (s_g rfl (s_g rfl (s_nr (s_g rfl (s_I (c_oneSize h ha hb) (s_pf h2 ?_))))))), h, xFr.rf _ _⟩
      rw [q_B_either_21, xbz_0]
  · rw [show o_meet A false z a b = (false, A) from if_neg (fun q => h1 q.1)]
    refine ⟨w, s_g rfl (s_An (c_tabN hz h1) (s_g rfl (s_g rfl (s_nn ?_)))), h, xFr.rf _ _⟩
    rw [q_B_either_21, xbz_0]
def o_below (A : AS) (a b : Int) : Bool := decide ((0 ≤ a ∧ a < 8) ∧ (0 ≤ b ∧ b < 8) ∧ A.1 a.toNat = A.1 b.toNat) && belowC (A.1 a.toNat) (A.2.1 a.toNat) (A.2.1 b.toNat)
theorem c_below (h : IC w A) {a b : Int} (ha : i32 a) (hb : i32 b) : xm B_below 0 [.ref 0, .int (iI a), .int (iI b)] w = some (.int (bI (o_below A a b)), w) := by
  rw [e_B_below, q_B_below_0]
  unfold o_below
  refine s_g rfl (s_I (c_oneSize h ha hb) ?_)
  by_cases h2 : (0 ≤ a ∧ a < 8) ∧ (0 ≤ b ∧ b < 8) ∧ A.1 a.toNat = A.1 b.toNat
  · obtain ⟨p1, p2, p3⟩ := c_place h.1 h2.1
    obtain ⟨p4, p5, p6⟩ := c_place h.1 h2.2.1
    have ta := (h.2.1 a.toNat (by omega)).1
    have tb' := (h.2.1 b.toNat (by omega)).1
    rw [← h2.2.2] at tb'
    rw [decide_eq_true h2, Bool.true_and]
    refine s_bt rfl (s_g rfl (s_o p1 (s_g p2 (s_o p3 (s_g rfl (s_o p4 (s_g p5 (s_o p6 (s_g (T_rv ta.1) (s_I (m_isBelow ta tb') ?_))))))))))
    cases belowC (A.1 a.toNat) (A.2.1 a.toNat) (A.2.1 b.toNat) with
    | true =>
      refine s_bt rfl ?_
      rw [q_B_below_32, xbz_1]
    | false =>
      refine s_bf rfl ?_
      rw [q_B_below_31, q_B_below_32, xbz_0]
  · rw [decide_eq_false h2, Bool.false_and]
    refine s_bf rfl ?_
    rw [q_B_below_31, q_B_below_32, xbz_0]
def o_apart (A : AS) (a b : Int) : Int := if (0 ≤ a ∧ a < 8) ∧ (0 ≤ b ∧ b < 8) ∧ A.1 a.toNat = A.1 b.toNat then apartC (A.1 a.toNat) (A.2.1 a.toNat) (A.2.1 b.toNat) else -1
theorem c_apart (h : IC w A) {a b : Int} (ha : i32 a) (hb : i32 b) : xm B_apart 0 [.ref 0, .int (iI a), .int (iI b)] w = some (.int (iI (o_apart A a b)), w) := by
  rw [e_B_apart, q_B_apart_0]
  unfold o_apart
  refine s_g rfl (s_I (c_oneSize h ha hb) ?_)
  by_cases h2 : (0 ≤ a ∧ a < 8) ∧ (0 ≤ b ∧ b < 8) ∧ A.1 a.toNat = A.1 b.toNat
  · obtain ⟨p1, p2, p3⟩ := c_place h.1 h2.1
    obtain ⟨p4, p5, p6⟩ := c_place h.1 h2.2.1
    have ta := (h.2.1 a.toNat (by omega)).1
    have tb' := (h.2.1 b.toNat (by omega)).1
    rw [← h2.2.2] at tb'
    refine s_pt h2 (s_g rfl (s_o p1 (s_g p2 (s_o p3 (s_g rfl (s_o p4 (s_g p5 (s_o p6 (s_g (T_rv ta.1) (s_I (m_stepsTo ta tb') ?_))))))))))
    rw [q_B_apart_28, if_pos h2]
  · refine s_pf h2 ?_
    rw [q_B_apart_27, q_B_apart_28, if_neg h2]
end XCLS
