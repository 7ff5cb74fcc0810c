/-! ===== THE REFERENCE, 4 (own work): reads of a table ===== -/
section XMOD
variable {w : XW} {A : AS}
theorem r_sizes {p n : Nat} {C : Nat → Nat → Int} (hG : XG w) (h : rt w p n C) {z : Int} (hz : z = p ∧ p < 8) : xRF w 34 1 = some 35 ∧ xoa w 35 1 (iI z) = true ∧ xIA w 35 (iI z).toNatClampNeg = iI n := by
  obtain ⟨rfl, hp⟩ := hz
  refine ⟨hG.r (by decide) rfl, xin_t (n := 8) (by omega), ?_⟩
  rw [iI_natk p (by omega)]; exact h.2.2.1
theorem r_size (h : IM w A) {z : Int} (hz : i32 z) : ∃ w', xm M_size 0 [.ref 34, .int (iI z)] w = some (.int (iI (o_size A z)), w') ∧ IM w' A ∧ mFr w w' := by
  have h0 := IM_F (k := 0) (v := iI 0) h (by decide)
  refine ⟨_, ?_, h0, mFr_F (by decide)⟩
  rw [e_M_size, q_M_size_0]
  unfold o_size
  refine s_g rfl (s_I (r_knows hz) ?_)
  by_cases h1 : 0 ≤ z ∧ z < 8
  · obtain ⟨g1, g2, g3⟩ := r_sizes h0.1 (h0.2.1 z.toNat (by omega)) (z := z) (by omega)
    refine s_pt h1 (s_g rfl (s_o g1 (s_g g2 ?_)))
    rw [g3, q_M_size_18, if_pos h1]
  · refine s_pf h1 ?_
    rw [q_M_size_17, q_M_size_18, if_neg h1]
theorem r_at (h : IM w A) {z zi zj : Int} (hz : i32 z) (hi : i32 zi) (hj : i32 zj) : ∃ w', xm M_at 0 [.ref 34, .int (iI z), .int (iI zi), .int (iI zj)] w = some (.int (iI (o_at A z zi zj)), w') ∧ IM w' A ∧ mFr w w' := by
  have h0 := IM_F (k := 0) (v := iI 0) h (by decide)
  refine ⟨_, ?_, h0, mFr_F (by decide)⟩
  rw [e_M_at, q_M_at_0]
  unfold o_at
  refine s_g rfl (s_I (r_knows hz) ?_)
  by_cases h1 : 0 ≤ z ∧ z < 8
  · have t := h0.2.1 z.toNat (by omega)
    have tn := t.1
    obtain ⟨g1, g2, g3⟩ := r_sizes h0.1 t (z := z) (by omega)
    refine s_pt h1 ?_
    rw [q_M_at_10]
    refine s_g rfl (s_o g1 (s_g g2 (s_g rfl ?_)))
    rw [g3, iI_sub]
    refine s_I (r_isIn hi hj (by omega)) ?_
    by_cases h2 : (0 ≤ zi ∧ zi ≤ (A.1 z.toNat : Int) - 1) ∧ (0 ≤ zj ∧ zj ≤ (A.1 z.toNat : Int) - 1)
    · refine s_pt h2 (s_g rfl (s_I (r_a h0.1 t (by omega) zi.toNat zj.toNat (by omega)) ?_))
      rw [q_M_at_39, if_pos h1, if_pos h2]
    · refine s_pf h2 ?_
      rw [q_M_at_38, q_M_at_39, if_pos h1, if_neg h2]
  · refine s_pf h1 ?_
    rw [if_neg h1]
theorem r_sum (h : IM w A) {z zi zj : Int} (hz : i32 z) (hi : i32 zi) (hj : i32 zj) : ∃ w', xm M_sum 0 [.ref 34, .int (iI z), .int (iI zi), .int (iI zj)] w = some (.int (iI (o_sum A z zi zj)), w') ∧ IM w' A ∧ mFr w w' := by
  have h0 := IM_F (k := 0) (v := iI 0) h (by decide)
  refine ⟨_, ?_, h0, mFr_F (by decide)⟩
  rw [e_M_sum, q_M_sum_0]
  unfold o_sum
  refine s_g rfl (s_I (r_knows hz) ?_)
  by_cases h1 : 0 ≤ z ∧ z < 8
  · have t := h0.2.1 z.toNat (by omega)
    have tn := t.1
    obtain ⟨g1, g2, g3⟩ := r_sizes h0.1 t (z := z) (by omega)
    refine s_pt h1 (s_g rfl (s_o g1 (s_g g2 (s_g rfl ?_))))
    rw [g3]
    refine s_I (r_isIn hi hj (by omega)) ?_
    by_cases h2 : (0 ≤ zi ∧ zi ≤ (A.1 z.toNat : Int)) ∧ (0 ≤ zj ∧ zj ≤ (A.1 z.toNat : Int))
    · refine s_pt h2 (s_g rfl (s_I (r_corner h0.1 t (by omega) zi.toNat zj.toNat (by omega)) ?_))
      rw [q_M_sum_35, if_pos ⟨h1, h2⟩]
    · refine s_pf h2 ?_
      rw [q_M_sum_34, q_M_sum_35, if_neg (fun q => h2 q.2)]
  · refine s_pf h1 ?_
    rw [q_M_sum_34, q_M_sum_35, if_neg (fun q => h1 q.1)]
theorem sumF_dAc (C : Nat → Nat → Int) (i j : Nat) : sumF (fun r => dA C r j) i = (C i (j + 1) - C i j) - (C 0 (j + 1) - C 0 j) := by
  have := sumF_tele (fun r => C r (j + 1) - C r j) i
  rw [← this]
  exact sumF_congr (fun k _ => by unfold dA; omega)
theorem r_points (hG : XG w) {p n : Nat} {C : Nat → Nat → Int} (h : rt w p n C) (hp : p < 8) (l : Bool) {x : Int32} (hx : x = bI l) {zp zi zj : Int} (i j : Nat) (hh : zp = p ∧ zi = i ∧ zj = j) (he : eOk n l i j) : xm M_points 0 [.ref 34, .int (iI zp), .int x, .int (iI zi), .int (iI zj)] w = some (.int (bI (decide (eS C l i j = 0))), w) := by
  subst hx
  obtain ⟨rfl, rfl, rfl⟩ := hh
  have hn := h.1
  have hb := h.2.1.edge he
  rw [e_M_points, q_M_points_0]
  have fin : ∀ u, xr M_points 0 68 [some (.ref 34), some (.int (iI (p : Int))), some (.int (bI l)), some (.int (iI (i : Int))), some (.int (iI (j : Int))), some (.int (iI (eS C l i j))), some (.int (iI u))] [] (0, 0) w = some (.int (bI (decide (eS C l i j = 0))), w) := fun u => by
    rw [q_M_points_68, iI_zero]
    by_cases q : eS C l i j = 0
    · refine s_eqt q ?_
      rw [q_M_points_78, xbz_1, decide_eq_true q]
    · refine s_eqf (by omega) ?_
      rw [q_M_points_77, q_M_points_78, xbz_0, decide_eq_false q]
  cases l with
  | true =>
    obtain ⟨h1, h2⟩ := he
    refine s_bt rfl ?_
    refine x_loop (fun (k : Nat) (t : Int) (_ : Unit) => xr M_points 0 10 [some (.ref 34), some (.int (iI (p : Int))), some (.int (bI true)), some (.int (iI (i : Int))), some (.int (iI (j : Int))), some (.int (iI t)), some (.int (iI k))] [] (0, 0) w) j
      (fun k t => t = sumF (fun c => dA C i c) k) (fun o => o = some (.int (bI (decide (eS C true i j = 0))), w)) (fun k t u hk hq => Or.inr ⟨t + dA C i k, (), ?_, by rw [hq]; rfl⟩) (fun t u hq => ?_) 0 () rfl
    · rw [q_M_points_10]
      refine s_lef (by omega) (s_g rfl (s_I (r_a hG h hp i k (by omega)) ?_))
      rw [iI_add, iI_add]; rfl
    · rw [q_M_points_10]
      refine s_let (by omega) ?_
      rw [q_M_points_36, hq, sumF_dA, h.2.1.2.1 (i + 1) (by omega), h.2.1.2.1 i (by omega)]
      rw [show C (i + 1) j - C i j - (0 - 0) = eS C true i j by unfold eS; dsimp only; omega]
      exact fin j
  | false =>
    obtain ⟨h1, h2⟩ := he
    refine s_bf rfl ?_
    rw [q_M_points_39]
    refine x_loop (fun (k : Nat) (t : Int) (_ : Unit) => xr M_points 0 42 [some (.ref 34), some (.int (iI (p : Int))), some (.int (bI false)), some (.int (iI (i : Int))), some (.int (iI (j : Int))), some (.int (iI t)), some (.int (iI k))] [] (0, 0) w) i
      (fun k t => t = sumF (fun r => dA C r j) k) (fun o => o = some (.int (bI (decide (eS C false i j = 0))), w)) (fun k t u hk hq => Or.inr ⟨t + dA C k j, (), ?_, by rw [hq]; rfl⟩) (fun t u hq => ?_) 0 () rfl
    · rw [q_M_points_42]
      refine s_lef (by omega) (s_g rfl (s_I (r_a hG h hp k j (by omega)) ?_))
      rw [iI_add, iI_add]; rfl
    · rw [q_M_points_42]
      refine s_let (by omega) ?_
      rw [hq, sumF_dAc, h.2.1.1 (j + 1) (by omega), h.2.1.1 j (by omega)]
      rw [show C i (j + 1) - C i j - (0 - 0) = eS C false i j by unfold eS; dsimp only; omega]
      exact fin i
theorem r_isEdge (hG : XG w) {p n : Nat} {C : Nat → Nat → Int} (h : rt w p n C) {z zi zj : Int} (hz : z = p ∧ p < 8) (l : Bool) (hi : i32 zi) (hj : i32 zj) : xm M_isEdge 0 [.ref 34, .int (iI z), .int (bI l), .int (iI zi), .int (iI zj)] w = some (.int (bI (hasE n l zi zj)), w) := by
  have hn := h.1
  obtain ⟨g1, g2, g3⟩ := r_sizes hG h hz
  rw [e_M_isEdge, q_M_isEdge_0]
  refine s_g rfl (s_o g1 (s_g g2 ?_))
  rw [g3, iI_zero]
  have no : hasE n l zi zj = false → xr M_isEdge 0 56 [some (.ref 34), some (.int (iI z)), some (.int (bI l)), some (.int (iI zi)), some (.int (iI zj)), some (.int (iI (n : Int)))] [] (0, 0) w = some (.int (bI (hasE n l zi zj)), w) := fun q => by rw [q_M_isEdge_56, q_M_isEdge_57, xbz_0, q]
  have yes : hasE n l zi zj = true → xr M_isEdge 0 57 [some (.ref 34), some (.int (iI z)), some (.int (bI l)), some (.int (iI zi)), some (.int (iI zj)), some (.int (iI (n : Int)))] [.int (iI 1)] (0, 0) w = some (.int (bI (hasE n l zi zj)), w) := fun q => by rw [q_M_isEdge_57, xbz_1, q]
  have nof : ∀ q : Prop, (hasE n l zi zj = true → q) → ¬ q → hasE n l zi zj = false := fun q a b => by rw [← Bool.not_eq_true]; exact fun z => b (a z)
  by_cases h1 : zi < 0
  · exact s_ltt (by omega) (no (nof (0 ≤ zi) (fun q => by have := hasE_ok q; omega) (by omega)))
  · refine s_ltf (by omega) ?_
    by_cases h2 : zj < 0
    · exact s_ltt (by omega) (no (nof (0 ≤ zj) (fun q => by have := hasE_ok q; omega) (by omega)))
    · refine s_ltf (by omega) ?_
      cases l with
      | true =>
        refine s_bt rfl ?_
        rw [q_M_isEdge_31]
        by_cases h3 : (n : Int) ≤ zi
        · exact s_let (by omega) (no (by rw [← Bool.not_eq_true]; unfold hasE; simp only [Bool.and_eq_true, decide_eq_true_eq]; omega))
        · refine s_lef (by omega) (s_bt rfl ?_)
          rw [q_M_isEdge_49, iI_add]
          by_cases h4 : (n : Int) + 1 ≤ zj
          · exact s_let (by omega) (no (by rw [← Bool.not_eq_true]; unfold hasE; simp only [Bool.and_eq_true, decide_eq_true_eq]; omega))
          · exact s_lef (by omega) (yes (by unfold hasE; simp only [Bool.and_eq_true, decide_eq_true_eq]; omega))
      | false =>
        refine s_bf rfl ?_
        rw [q_M_isEdge_27, q_M_isEdge_31, iI_add]
        by_cases h3 : (n : Int) + 1 ≤ zi
        · exact s_let (by omega) (no (by rw [← Bool.not_eq_true]; unfold hasE; simp only [Bool.and_eq_true, decide_eq_true_eq]; omega))
        · refine s_lef (by omega) (s_bf rfl ?_)
          rw [q_M_isEdge_47, q_M_isEdge_49]
          by_cases h4 : (n : Int) ≤ zj
          · exact s_let (by omega) (no (by rw [← Bool.not_eq_true]; unfold hasE; simp only [Bool.and_eq_true, decide_eq_true_eq]; omega))
          · exact s_lef (by omega) (yes (by unfold hasE; simp only [Bool.and_eq_true, decide_eq_true_eq]; omega))
theorem bI_eq {a b : Bool} : bI a = bI b ↔ a = b := by cases a <;> cases b <;> decide
theorem r_isHeld (hG : XG w) {p n : Nat} {C : Nat → Nat → Int} (h : rt w p n C) (hp : p < 8) (l : Bool) {x : Int32} (hx : x = bI l) {zp zi zj : Int} (i j : Nat) (hh : zp = p ∧ zi = i ∧ zj = j) (he : eOk n l i j) : xm M_isHeld 0 [.ref 34, .int (iI zp), .int x, .int (iI zi), .int (iI zj)] w = some (.int (bI (hd C l i j)), w) := by
  subst hx
  obtain ⟨rfl, rfl, rfl⟩ := hh
  have hn := h.1
  have hb := h.2.1.edge he
  have hij : i ≤ n ∧ j ≤ n := by
    unfold eOk at he
    cases l <;> dsimp only at he <;> omega
  rw [e_M_isHeld, q_M_isHeld_0]
  refine s_f (by decide) ?_
  rw [iI_add, iI_rem2 (by omega), iI_zero]
  have go : xr M_isHeld 0 14 [some (.ref 34), some (.int (iI (p : Int))), some (.int (bI l)), some (.int (iI (i : Int))), some (.int (iI (j : Int))), none] [.int (bI (decide (((i : Int) + j) % 2 = 0)))] (0, 0) w = some (.int (bI (hd C l i j)), w) := by
    rw [q_M_isHeld_14]
    refine s_g rfl (s_I (r_points hG h hp l rfl i j ⟨rfl, rfl, rfl⟩ he) ?_)
    have fin : ∀ b : Bool, (decide (eS C l i j = 0) = b ↔ hd C l i j = true) → xr M_isHeld 0 36 [some (.ref 34), some (.int (iI (p : Int))), some (.int (bI l)), some (.int (iI (i : Int))), some (.int (iI (j : Int))), some (.int (bI (decide (((i : Int) + j) % 2 = 0))))] [.int (bI b), .int (bI (decide (eS C l i j = 0)))] (0, 0) w = some (.int (bI (hd C l i j)), w) := by
      intro b hbq
      rw [q_M_isHeld_36]
      cases hq : hd C l i j with
      | true =>
        refine s_t (bI_eq.mpr (hbq.mpr hq)) ?_
        rw [q_M_isHeld_44, xbz_1]
      | false =>
        refine s_f (fun z => by have := hbq.mp (bI_eq.mp z); rw [hq] at this; cases this) ?_
        rw [q_M_isHeld_43, q_M_isHeld_44, xbz_0]
    by_cases hl : l = decide (((i : Int) + j) % 2 = 0)
    · refine s_t (by rw [← hl]) (fin true ?_)
      cases l with
      | true =>
        have := of_decide_eq_true hl.symm
        unfold hd
        simp only [decide_eq_true_eq]
        omega
      | false =>
        have := of_decide_eq_false hl.symm
        unfold hd
        simp only [decide_eq_true_eq]
        omega
    · refine s_f (fun z => hl (bI_eq.mp z)) ?_
      rw [q_M_isHeld_35]
      refine fin false ?_
      cases l with
      | true =>
        have : ¬ ((i : Int) + j) % 2 = 0 := fun z => hl (decide_eq_true z).symm
        unfold hd
        simp only [decide_eq_true_eq, decide_eq_false_iff_not]
        omega
      | false =>
        have : ((i : Int) + j) % 2 = 0 := Classical.byContradiction (fun z => hl (decide_eq_false z).symm)
        unfold hd
        simp only [decide_eq_true_eq, decide_eq_false_iff_not]
        omega
  by_cases q : ((i : Int) + j) % 2 = 0
  · rw [decide_eq_true q] at go
    exact s_eqt q go
  · rw [decide_eq_false q] at go
    refine s_eqf (by omega) ?_
    rw [q_M_isHeld_13]; exact go
theorem r_arrow (h : IM w A) {z zi zj : Int} (l : Bool) (hz : i32 z) (hi : i32 zi) (hj : i32 zj) : ∃ w', xm M_arrow 0 [.ref 34, .int (iI z), .int (bI l), .int (iI zi), .int (iI zj)] w = some (.int (iI (o_arrow A z l zi zj)), w') ∧ IM w' A ∧ mFr w w' := by
  have h0 := IM_F (k := 0) (v := iI 0) h (by decide)
  refine ⟨_, ?_, h0, mFr_F (by decide)⟩
  rw [e_M_arrow, q_M_arrow_0]
  unfold o_arrow
  refine s_g rfl (s_I (r_knows hz) ?_)
  by_cases h1 : 0 ≤ z ∧ z < 8
  · have t := h0.2.1 z.toNat (by omega)
    refine s_pt h1 ?_
    rw [q_M_arrow_10, if_pos h1]
    refine s_g rfl (s_I (r_isEdge h0.1 t (by omega) l hi hj) ?_)
    cases hh : hasE (A.1 z.toNat) l zi zj with
    | true =>
      obtain ⟨e1, e2⟩ := hasE_ok hh
      refine s_bt rfl ?_
      rw [q_M_arrow_26, if_pos rfl]
      refine s_g rfl (s_I (r_points h0.1 t (by omega) l rfl zi.toNat zj.toNat (by omega) e2) ?_)
      by_cases q : eS (A.2.1 z.toNat) l zi.toNat zj.toNat = 0
      · refine s_pt q ?_
        rw [q_M_arrow_43, if_pos q]
      · refine s_pf q ?_
        rw [q_M_arrow_42, q_M_arrow_43, if_neg q]
    | false =>
      refine s_bf rfl ?_
      rw [q_M_arrow_43]; rfl
  · refine s_pf h1 ?_
    rw [if_neg h1]
theorem r_held (h : IM w A) {z zi zj : Int} (l : Bool) (hz : i32 z) (hi : i32 zi) (hj : i32 zj) : ∃ w', xm M_held 0 [.ref 34, .int (iI z), .int (bI l), .int (iI zi), .int (iI zj)] w = some (.int (iI (o_held A z l zi zj)), w') ∧ IM w' A ∧ mFr w w' := by
  have h0 := IM_F (k := 0) (v := iI 0) h (by decide)
  refine ⟨_, ?_, h0, mFr_F (by decide)⟩
  rw [e_M_held, q_M_held_0]
  unfold o_held
  refine s_g rfl (s_I (r_knows hz) ?_)
  by_cases h1 : 0 ≤ z ∧ z < 8
  · have t := h0.2.1 z.toNat (by omega)
    refine s_pt h1 (s_g rfl (s_I (r_isEdge h0.1 t (by omega) l hi hj) ?_))
    cases hh : hasE (A.1 z.toNat) l zi zj with
    | true =>
      obtain ⟨e1, e2⟩ := hasE_ok hh
      refine s_bt rfl ?_
      rw [q_M_held_24]
      refine s_g rfl (s_I (r_isHeld h0.1 t (by omega) l rfl zi.toNat zj.toNat (by omega) e2) ?_)
      rw [if_pos h1, if_pos rfl]
      cases hd (A.2.1 z.toNat) l zi.toNat zj.toNat with
      | true =>
        refine s_bt rfl ?_
        rw [q_M_held_41]; rfl
      | false =>
        refine s_bf rfl ?_
        rw [q_M_held_40, q_M_held_41]; rfl
    | false =>
      refine s_bf rfl ?_
      rw [q_M_held_20, q_M_held_41, if_pos h1]; rfl
  · refine s_pf h1 ?_
    rw [q_M_held_20, q_M_held_41, if_neg h1]
end XMOD
