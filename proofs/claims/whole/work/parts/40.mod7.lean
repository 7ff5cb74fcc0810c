/-! ===== THE REFERENCE, 7 (own work): steps, toward ===== -/
theorem dA_up {C : Nat → Nat → Int} {i j : Nat} {v : Int} (hi : 1 ≤ i) (hj : 1 ≤ j) (r c : Nat) : dA (upC C i j v) r c = dA C r c + (if (r = i - 1 ∧ c = j - 1) ∨ (r = i ∧ c = j) then v - C i j else if (r = i - 1 ∧ c = j) ∨ (r = i ∧ c = j - 1) then -(v - C i j) else 0) := by
  unfold dA upC
  by_cases e1 : r = i - 1 ∧ c = j - 1
  · obtain ⟨rfl, rfl⟩ := e1
    rw [if_pos (by omega : i - 1 + 1 = i ∧ j - 1 + 1 = j), if_neg (by omega), if_neg (by omega), if_neg (by omega), if_pos (Or.inl ⟨rfl, rfl⟩), show i - 1 + 1 = i by omega, show j - 1 + 1 = j by omega]; omega
  · by_cases e2 : r = i ∧ c = j
    · obtain ⟨rfl, rfl⟩ := e2
      rw [if_neg (by omega), if_neg (by omega), if_neg (by omega), if_pos ⟨rfl, rfl⟩, if_pos (Or.inr ⟨rfl, rfl⟩)]; omega
    · rw [if_neg (show ¬ ((r = i - 1 ∧ c = j - 1) ∨ (r = i ∧ c = j)) by omega)]
      by_cases e3 : r = i - 1 ∧ c = j
      · obtain ⟨rfl, rfl⟩ := e3
        rw [if_neg (by omega), if_neg (by omega), if_pos (by omega : i - 1 + 1 = i ∧ c = c), if_neg (by omega), if_pos (Or.inl ⟨rfl, rfl⟩), show i - 1 + 1 = i by omega]; omega
      · by_cases e4 : r = i ∧ c = j - 1
        · obtain ⟨rfl, rfl⟩ := e4
          rw [if_neg (by omega), if_pos (by omega : r = r ∧ j - 1 + 1 = j), if_neg (by omega), if_neg (by omega), if_pos (Or.inr ⟨rfl, rfl⟩), show j - 1 + 1 = j by omega]; omega
        · rw [if_neg (by omega), if_neg (by omega), if_neg (by omega), if_neg (by omega), if_neg (by omega)]; omega
section XMOD
variable {w : XW} {A : AS}
theorem r_a0 (hG : XG w) {zp zi zj : Int} (p i j : Nat) (hh : zp = p ∧ zi = i ∧ zj = j ∧ p < 8 ∧ i < 10 ∧ j < 10) : xm M_a 0 [.ref 34, .int (iI zp), .int (iI zi), .int (iI zj)] w = some (.int (xIA w 36 ((p * 10 + i) * 10 + j)), w) := by
  obtain ⟨rfl, rfl, rfl, hp, hi, hj⟩ := hh
  rw [e_M_a, q_M_a_0]
  simp only [iI_mul, iI_add]
  refine s_g rfl (s_o (hG.r (by decide) rfl) (s_g (xin_t (n := 800) (by omega)) ?_))
  rw [iI_nat (by omega), show (((p : Int) * 10 + i) * 10 + j).toNat = (p * 10 + i) * 10 + j by omega]
theorem r_mayBe (hG : XG w) {p n : Nat} {C : Nat → Nat → Int} (h : rt w p n C) {z zi zj v d : Int} (hz : z = p ∧ p < 8) (i j : Nat) (hh : zi = i ∧ zj = j ∧ 1 ≤ i ∧ i < n ∧ 1 ≤ j ∧ j < n) (hd : d = 1 ∨ d = -1) (hv : v = C i j + d) : xm M_mayBe 0 [.ref 34, .int (iI z), .int (iI zi), .int (iI zj), .int (iI v)] w = some (.int (bI (canS C i j d)), w) := by
  obtain ⟨rfl, rfl, hi, hi2, hj, hj2⟩ := hh
  subst hv
  have hn := h.1
  have hb := h.2.1
  have b0 := hb.bd (i := i) (j := j) (by omega) (by omega)
  have b1 := hb.bd (i := i - 1) (j := j) (by omega) (by omega)
  have b2 := hb.bd (i := i) (j := j - 1) (by omega) (by omega)
  have b3 := hb.bd (i := i + 1) (j := j) (by omega) (by omega)
  have b4 := hb.bd (i := i) (j := j + 1) (by omega) (by omega)
  obtain ⟨g1, g2, g3⟩ := r_sizes hG h hz
  rw [e_M_mayBe, q_M_mayBe_0]
  refine s_g rfl (s_o g1 (s_g g2 ?_))
  rw [g3]
  refine s_ltf (by omega) (s_ltf (by omega) (s_lef (by omega) (s_ltt (by omega) ?_)))
  rw [q_M_mayBe_32]
  simp only [iI_sub, iI_add]
  refine s_g rfl (s_I (r_corner hG h hz.2 (i - 1) j (by omega)) (s_g rfl (s_I (r_corner hG h hz.2 i (j - 1) (by omega)) (s_g rfl (s_I (r_corner hG h hz.2 (i + 1) j (by omega)) (s_g rfl (s_I (r_corner hG h hz.2 i (j + 1) (by omega)) ?_)))))))
  simp only [iI_add]
  generalize hu : C (i - 1) j = cu at *
  generalize hl : C i (j - 1) = cl at *
  generalize hdn : C (i + 1) j = cd at *
  generalize hr : C i (j + 1) = cr at *
  have hcan : canS C i j d = decide ((C i j + d = cu ∨ C i j + d = cu + 1) ∧ (C i j + d = cl ∨ C i j + d = cl + 1) ∧ (cd = C i j + d ∨ cd = C i j + d + 1) ∧ (cr = C i j + d ∨ cr = C i j + d + 1)) := by
    unfold canS
    rw [hu, hl, hdn, hr]
  generalize hx : C i j + d = x at *
  have no : canS C i j d = false → xr M_mayBe 0 144 [some (.ref 34), some (.int (iI z)), some (.int (iI (i : Int))), some (.int (iI (j : Int))), some (.int (iI x)), some (.int (iI (n : Int))), some (.int (iI cu)), some (.int (iI cl)), some (.int (iI cd)), some (.int (iI cr))] [] (0, 0) w = some (.int (bI (canS C i j d)), w) := fun q => by rw [q_M_mayBe_144, q_M_mayBe_145, xbz_0, q]
  have p124 : (x = cu ∨ x = cu + 1) → (x = cl ∨ x = cl + 1) → (cd = x ∨ cd = x + 1) → xr M_mayBe 0 124 [some (.ref 34), some (.int (iI z)), some (.int (iI (i : Int))), some (.int (iI (j : Int))), some (.int (iI x)), some (.int (iI (n : Int))), some (.int (iI cu)), some (.int (iI cl)), some (.int (iI cd)), some (.int (iI cr))] [] (0, 0) w = some (.int (bI (canS C i j d)), w) := by
    intro k1 k2 k3
    have yes : (cr = x ∨ cr = x + 1) → xr M_mayBe 0 140 [some (.ref 34), some (.int (iI z)), some (.int (iI (i : Int))), some (.int (iI (j : Int))), some (.int (iI x)), some (.int (iI (n : Int))), some (.int (iI cu)), some (.int (iI cl)), some (.int (iI cd)), some (.int (iI cr))] [] (0, 0) w = some (.int (bI (canS C i j d)), w) := fun k4 => by
      rw [q_M_mayBe_140, q_M_mayBe_145, xbz_1, hcan, decide_eq_true ⟨k1, k2, k3, k4⟩]
    rw [q_M_mayBe_124, iI_add]
    by_cases q1 : cr = x
    · exact s_eqt q1 (yes (Or.inl q1))
    · refine s_eqf (by omega) ?_
      by_cases q2 : cr = x + 1
      · exact s_eqt q2 (yes (Or.inr q2))
      · exact s_eqf (by omega) (no (by rw [hcan]; exact decide_eq_false (fun q => by omega)))
  have p108 : (x = cu ∨ x = cu + 1) → (x = cl ∨ x = cl + 1) → xr M_mayBe 0 108 [some (.ref 34), some (.int (iI z)), some (.int (iI (i : Int))), some (.int (iI (j : Int))), some (.int (iI x)), some (.int (iI (n : Int))), some (.int (iI cu)), some (.int (iI cl)), some (.int (iI cd)), some (.int (iI cr))] [] (0, 0) w = some (.int (bI (canS C i j d)), w) := by
    intro k1 k2
    rw [q_M_mayBe_108, iI_add]
    by_cases q1 : cd = x
    · exact s_eqt q1 (p124 k1 k2 (Or.inl q1))
    · refine s_eqf (by omega) ?_
      by_cases q2 : cd = x + 1
      · exact s_eqt q2 (p124 k1 k2 (Or.inr q2))
      · exact s_eqf (by omega) (no (by rw [hcan]; exact decide_eq_false (fun q => by omega)))
  have p92 : (x = cu ∨ x = cu + 1) → xr M_mayBe 0 92 [some (.ref 34), some (.int (iI z)), some (.int (iI (i : Int))), some (.int (iI (j : Int))), some (.int (iI x)), some (.int (iI (n : Int))), some (.int (iI cu)), some (.int (iI cl)), some (.int (iI cd)), some (.int (iI cr))] [] (0, 0) w = some (.int (bI (canS C i j d)), w) := by
    intro k1
    rw [q_M_mayBe_92, iI_add]
    by_cases q1 : x = cl
    · exact s_eqt q1 (p108 k1 (Or.inl q1))
    · refine s_eqf (by omega) ?_
      by_cases q2 : x = cl + 1
      · exact s_eqt q2 (p108 k1 (Or.inr q2))
      · exact s_eqf (by omega) (no (by rw [hcan]; exact decide_eq_false (fun q => by omega)))
  by_cases q1 : x = cu
  · exact s_eqt q1 (p92 (Or.inl q1))
  · refine s_eqf (by omega) ?_
    by_cases q2 : x = cu + 1
    · exact s_eqt q2 (p92 (Or.inr q2))
    · exact s_eqf (by omega) (no (by rw [hcan]; exact decide_eq_false (fun q => by omega)))
theorem r_changes (hG : XG w) {p n : Nat} {C : Nat → Nat → Int} (h : rt w p n C) {z zi zj d : Int} (hz : z = p ∧ p < 8) (i j : Nat) (hh : zi = i ∧ zj = j ∧ 1 ≤ i ∧ i < n ∧ 1 ≤ j ∧ j < n) (hc : canS C i j d = true) : ∃ w', xm M_changes 0 [.ref 34, .int (iI z), .int (iI zi), .int (iI zj), .int (iI d)] w = some (.null, w') ∧ mFr w w' ∧ rOut w w' p ∧ rt w' p n (upC C i j (C i j + d)) := by
  obtain ⟨rfl, rfl, hi, hi2, hj, hj2⟩ := hh
  have hn := h.1
  have e1 := h.2.2.2 (i - 1) (j - 1) (by omega) (by omega)
  have e2 := h.2.2.2 i j (by omega) (by omega)
  have e3 := h.2.2.2 (i - 1) j (by omega) (by omega)
  have e4 := h.2.2.2 i (j - 1) (by omega) (by omega)
  generalize hk1 : (p * 10 + (i - 1)) * 10 + (j - 1) = k1 at *
  generalize hk2 : (p * 10 + i) * 10 + j = k2 at *
  generalize hk3 : (p * 10 + (i - 1)) * 10 + j = k3 at *
  generalize hk4 : (p * 10 + i) * 10 + (j - 1) = k4 at *
  have f1 : mFr w (xpI w 36 k1 (iI (dA C (i - 1) (j - 1) + d))) := mFr_I (by decide)
  have f2 := f1.tr (mFr_I (a := 36) (k := k2) (v := iI (dA C i j + d)) (by decide))
  have f3 := f2.tr (mFr_I (a := 36) (k := k3) (v := iI (dA C (i - 1) j - d)) (by decide))
  have f4 := f3.tr (mFr_I (a := 36) (k := k4) (v := iI (dA C i (j - 1) - d)) (by decide))
  have o1 : rOut w (xpI w 36 k1 (iI (dA C (i - 1) (j - 1) + d))) p := by rw [← hk1]; exact rOut_a (by omega) (by omega)
  have o2 : rOut w (xpI (xpI w 36 k1 (iI (dA C (i - 1) (j - 1) + d))) 36 k2 (iI (dA C i j + d))) p := o1.tr (by rw [← hk2]; exact rOut_a (by omega) (by omega))
  have o3 : rOut w (xpI (xpI (xpI w 36 k1 (iI (dA C (i - 1) (j - 1) + d))) 36 k2 (iI (dA C i j + d))) 36 k3 (iI (dA C (i - 1) j - d))) p := o2.tr (by rw [← hk3]; exact rOut_a (by omega) (by omega))
  have o4 : rOut w (xpI (xpI (xpI (xpI w 36 k1 (iI (dA C (i - 1) (j - 1) + d))) 36 k2 (iI (dA C i j + d))) 36 k3 (iI (dA C (i - 1) j - d))) 36 k4 (iI (dA C i (j - 1) - d))) p := o3.tr (by rw [← hk4]; exact rOut_a (by omega) (by omega))
  refine ⟨_, ?_, f4, o4, hn, asm_up h.2.1 ⟨hi, hi2, hj, hj2⟩ hc, ?_, fun r c hr hcn => ?_⟩
  · rw [e_M_changes, q_M_changes_0]
    simp only [iI_sub]
    have a1 := r_a0 hG (zp := z) (zi := (i : Int) - 1) (zj := (j : Int) - 1) p (i - 1) (j - 1) (by omega)
    have w1 := r_aw hG (zp := z) (zi := (i : Int) - 1) (zj := (j : Int) - 1) p (i - 1) (j - 1) (by omega) (iI (dA C (i - 1) (j - 1) + d))
    have a2 := r_a0 (f1.1.G hG) (zp := z) (zi := (i : Int)) (zj := (j : Int)) p i j (by omega)
    have w2 := r_aw (f1.1.G hG) (zp := z) (zi := (i : Int)) (zj := (j : Int)) p i j (by omega) (iI (dA C i j + d))
    have a3 := r_a0 (f2.1.G hG) (zp := z) (zi := (i : Int) - 1) (zj := (j : Int)) p (i - 1) j (by omega)
    have w3 := r_aw (f2.1.G hG) (zp := z) (zi := (i : Int) - 1) (zj := (j : Int)) p (i - 1) j (by omega) (iI (dA C (i - 1) j - d))
    have a4 := r_a0 (f3.1.G hG) (zp := z) (zi := (i : Int)) (zj := (j : Int) - 1) p i (j - 1) (by omega)
    have w4 := r_aw (f3.1.G hG) (zp := z) (zi := (i : Int)) (zj := (j : Int) - 1) p i (j - 1) (by omega) (iI (dA C i (j - 1) - d))
    rw [hk1] at a1 w1
    rw [hk2] at a2 w2
    rw [hk3] at a3 w3
    rw [hk4] at a4 w4
    rw [e1] at a1
    rw [a_pI, if_pos rfl, if_neg (by omega), e2] at a2
    rw [a_pI, if_pos rfl, if_neg (by omega), a_pI, if_pos rfl, if_neg (by omega), e3] at a3
    rw [a_pI, if_pos rfl, if_neg (by omega), a_pI, if_pos rfl, if_neg (by omega), a_pI, if_pos rfl, if_neg (by omega), e4] at a4
    refine s_g rfl (s_g rfl (s_I a1 ?_))
    rw [iI_add]
    refine s_V w1 (s_g rfl (s_g rfl (s_I a2 ?_)))
    rw [iI_add]
    refine s_V w2 (s_g rfl (s_g rfl (s_I a3 ?_)))
    rw [iI_sub]
    refine s_V w3 (s_g rfl (s_g rfl (s_I a4 ?_)))
    rw [iI_sub]
    exact s_V w4 rfl
  · rw [a_pI, if_neg (by decide), a_pI, if_neg (by decide), a_pI, if_neg (by decide), a_pI, if_neg (by decide)]; exact h.2.2.1
  · have e0 := h.2.2.2 r c hr hcn
    rw [dA_up hi hj, show C i j + d - C i j = d by omega]
    rw [a_pI, if_pos rfl, a_pI, if_pos rfl, a_pI, if_pos rfl, a_pI, if_pos rfl]
    by_cases q4 : r = i ∧ c = j - 1
    · obtain ⟨rfl, rfl⟩ := q4
      rw [if_pos hk4, if_neg (by omega), if_pos (Or.inr ⟨rfl, rfl⟩)]; rfl
    · rw [if_neg (by omega)]
      by_cases q3 : r = i - 1 ∧ c = j
      · obtain ⟨rfl, rfl⟩ := q3
        rw [if_pos hk3, if_neg (by omega), if_pos (Or.inl ⟨rfl, rfl⟩)]; rfl
      · rw [if_neg (by omega)]
        by_cases q2 : r = i ∧ c = j
        · obtain ⟨rfl, rfl⟩ := q2
          rw [if_pos hk2, if_pos (Or.inr ⟨rfl, rfl⟩)]
        · rw [if_neg (by omega)]
          by_cases q1 : r = i - 1 ∧ c = j - 1
          · obtain ⟨rfl, rfl⟩ := q1
            rw [if_pos hk1, if_pos (Or.inl ⟨rfl, rfl⟩)]
          · rw [if_neg (by omega), e0, if_neg (by omega), if_neg (by omega), Int.add_zero]
theorem r_step (h : IM w A) {z zi zj : Int} (up : Bool) (hz : i32 z) (hi : i32 zi) (hj : i32 zj) : ∃ w', xm M_step 0 [.ref 34, .int (iI z), .int (iI zi), .int (iI zj), .int (bI up)] w = some (.int (bI (o_step A z zi zj up).1), w') ∧ IM w' (o_step A z zi zj up).2 ∧ mFr w w' := by
  have h0 := IM_F (k := 0) (v := iI 0) h (by decide)
  have f0 : mFr w (xpF w 34 0 (iI 0)) := mFr_F (by decide)
  rw [e_M_step, q_M_step_0]
  generalize ht : xpF w 34 0 (iI 0) = t at *
  have kn := r_knows (w := w) hz
  rw [ht] at kn
  have no : ¬ ((0 ≤ z ∧ z < 8) ∧ (1 ≤ zi ∧ zi ≤ (A.1 z.toNat : Int) - 1 ∧ 1 ≤ zj ∧ zj ≤ (A.1 z.toNat : Int) - 1)) → ∀ o, o = xr M_step 0 38 [some (.ref 34), some (.int (iI z)), some (.int (iI zi)), some (.int (iI zj)), some (.int (bI up)), none] [] (0, 0) t → ∃ w', o = some (.int (bI (o_step A z zi zj up).1), w') ∧ IM w' (o_step A z zi zj up).2 ∧ mFr w w' := fun q o ho => by
    rw [show o_step A z zi zj up = (false, A) from if_neg (fun y => q y.1)]
    refine ⟨t, ?_, h0, f0⟩
    rw [ho, q_M_step_38, xbz_0]
  by_cases h1 : 0 ≤ z ∧ z < 8
  · have tt := h0.2.1 z.toNat (by omega)
    have rn := tt.1
    obtain ⟨g1, g2, g3⟩ := r_sizes h0.1 tt (z := z) (by omega)
    by_cases h2 : zi < 1
    · exact no (by omega) _ (s_g rfl (s_I kn (s_pt h1 (s_ltt (by omega) rfl))))
    · by_cases h3 : zj < 1
      · exact no (by omega) _ (s_g rfl (s_I kn (s_pt h1 (s_ltf (by omega) (s_ltt (by omega) rfl)))))
      · by_cases h4 : (A.1 z.toNat : Int) ≤ zi
        · refine no (by omega) _ (s_g rfl (s_I kn (s_pt h1 (s_ltf (by omega) (s_ltf (by omega) (s_g rfl (s_o g1 (s_g g2 ?_))))))))
          rw [g3]
          exact s_let (by omega) rfl
        · by_cases h5 : zj < (A.1 z.toNat : Int)
          · have run : ∀ x, xr M_step 0 50 [some (.ref 34), some (.int (iI z)), some (.int (iI zi)), some (.int (iI zj)), some (.int (bI up)), none] [.int (iI (upD up))] (0, 0) t = x → xg (xrv (.ref 34) 7) (xbI (xm M_knows 0 [.ref 34, .int (iI z)] w) (fun r_2 w_1 => if r_2 = 0 then xr M_step 0 38 [some (.ref 34), some (.int (iI z)), some (.int (iI zi)), some (.int (iI zj)), some (.int (bI up)), none] [] (0, 0) w_1 else if iI zi < (iI 1) then xr M_step 0 38 [some (.ref 34), some (.int (iI z)), some (.int (iI zi)), some (.int (iI zj)), some (.int (bI up)), none] [] (0, 0) w_1 else if iI zj < (iI 1) then xr M_step 0 38 [some (.ref 34), some (.int (iI z)), some (.int (iI zi)), some (.int (iI zj)), some (.int (bI up)), none] [] (0, 0) w_1 else xg (xok 34 7) (xo (xRF w_1 34 1) (fun q_3 => xg (xoa w_1 q_3 1 (iI z)) (if (xIA w_1 q_3 (iI z).toNatClampNeg) ≤ iI zi then xr M_step 0 38 [some (.ref 34), some (.int (iI z)), some (.int (iI zi)), some (.int (iI zj)), some (.int (bI up)), none] [] (0, 0) w_1 else xg (xok 34 7) (xo (xRF w_1 34 1) (fun q_4 => xg (xoa w_1 q_4 1 (iI z)) (if iI zj < (xIA w_1 q_4 (iI z).toNatClampNeg) then xr M_step 0 40 [some (.ref 34), some (.int (iI z)), some (.int (iI zi)), some (.int (iI zj)), some (.int (bI up)), none] [] (0, 0) w_1 else xr M_step 0 38 [some (.ref 34), some (.int (iI z)), some (.int (iI zi)), some (.int (iI zj)), some (.int (bI up)), none] [] (0, 0) w_1)))))))) = x := by
              intro x hx
              refine s_g rfl (s_I kn (s_pt h1 (s_ltf (by omega) (s_ltf (by omega) (s_g rfl (s_o g1 (s_g g2 ?_)))))))
              rw [g3]
              refine s_lef (by omega) (s_g rfl (s_o g1 (s_g g2 ?_)))
              rw [g3]
              refine s_ltt (by omega) ?_
              rw [q_M_step_40]
              cases up with
              | true => exact s_bt rfl hx
              | false =>
                refine s_bf rfl ?_
                rw [q_M_step_49]; exact hx
            have bb := tt.2.1.bd (i := zi.toNat) (j := zj.toNat) (by omega) (by omega)
            have mb := r_mayBe h0.1 tt (z := z) (zi := zi) (zj := zj) (by omega) zi.toNat zj.toNat (by omega) (upD_or up) rfl
            cases hc : canS (A.2.1 z.toNat) zi.toNat zj.toNat (upD up) with
            | true =>
              rw [hc] at mb
              rw [show o_step A z zi zj up = (true, setT A z.toNat (A.1 z.toNat) (upC (A.2.1 z.toNat) zi.toNat zj.toNat (A.2.1 z.toNat zi.toNat zj.toNat + upD up))) from if_pos ⟨⟨h1, by omega⟩, hc⟩]
              obtain ⟨w', k1, k2, k3, k4⟩ := r_changes h0.1 tt (z := z) (zi := zi) (zj := zj) (d := upD up) (by omega) zi.toNat zj.toNat (by omega) hc
              refine ⟨w', run _ ?_, IM_setT h0 (by omega) (k2.1.G h0.1) k4 k3.1 k3.2.1 k3.2.2.1 k3.2.2.2.1 k3.2.2.2.2, f0.tr k2⟩
              rw [q_M_step_50]
              refine s_g rfl (s_g rfl (s_I (r_corner h0.1 tt (by omega) zi.toNat zj.toNat (by omega)) ?_))
              rw [iI_add]
              refine s_I mb (s_bt rfl ?_)
              rw [q_M_step_74]
              refine s_g rfl (s_V k1 ?_)
              rw [xbz_1]
            | false =>
              rw [hc] at mb
              rw [show o_step A z zi zj up = (false, A) from if_neg (fun q => by rw [hc] at q; cases q.2)]
              refine ⟨t, run _ ?_, h0, f0⟩
              rw [q_M_step_50]
              refine s_g rfl (s_g rfl (s_I (r_corner h0.1 tt (by omega) zi.toNat zj.toNat (by omega)) ?_))
              rw [iI_add]
              refine s_I mb (s_bf rfl ?_)
              rw [xbz_0]
          · refine no (by omega) _ (s_g rfl (s_I kn (s_pt h1 (s_ltf (by omega) (s_ltf (by omega) (s_g rfl (s_o g1 (s_g g2 ?_))))))))
            rw [g3]
            refine s_lef (by omega) (s_g rfl (s_o g1 (s_g g2 ?_)))
            rw [g3]
            exact s_ltf (by omega) rfl
  · exact no (fun q => h1 q.1) _ (s_g rfl (s_I kn (s_pf h1 rfl)))
theorem r_toward (h : IM w A) {a b : Int} (ha : i32 a) (hb : i32 b) : ∃ w', xm M_toward 0 [.ref 34, .int (iI a), .int (iI b)] w = some (.int (iI (o_toward A a b).1), w') ∧ IM w' (o_toward A a b).2 ∧ mFr w w' := by
  have h0 := IM_F (k := 0) (v := iI 0) h (by decide)
  have f0 : mFr w (xpF w 34 0 (iI 0)) := mFr_F (by decide)
  rw [e_M_toward, q_M_toward_0]
  generalize ht : xpF w 34 0 (iI 0) = t at *
  have no : ¬ ((0 ≤ a ∧ a < 8) ∧ (0 ≤ b ∧ b < 8) ∧ A.1 a.toNat = A.1 b.toNat) → ∀ o, o = xr M_toward 0 34 [some (.ref 34), some (.int (iI a)), some (.int (iI b)), none, none, none, none, none] [] (0, 0) t → ∃ w', o = some (.int (iI (o_toward A a b).1), w') ∧ IM w' (o_toward A a b).2 ∧ mFr w w' := fun q o ho => by
    rw [show o_toward A a b = (-1, A) from if_neg q]
    refine ⟨t, ?_, h0, f0⟩
    rw [ho, q_M_toward_34]
  by_cases h2 : 0 ≤ a ∧ a < 8
  · by_cases h3 : 0 ≤ b ∧ b < 8
    · have ta := h0.2.1 a.toNat (by omega)
      have tb' := h0.2.1 b.toNat (by omega)
      obtain ⟨p1, p2, p3⟩ := r_sizes h0.1 ta (z := a) (by omega)
      obtain ⟨p4, p5, p6⟩ := r_sizes h0.1 tb' (z := b) (by omega)
      have rn := ta.1
      have rn' := tb'.1
      by_cases h4 : A.1 a.toNat = A.1 b.toNat
      · rw [← h4] at tb'
        rw [show o_toward A a b = towO A a.toNat (A.2.1 b.toNat) from if_pos ⟨h2, h3, h4⟩]
        have key : ∃ w', xr M_toward 0 46 [some (.ref 34), some (.int (iI a)), some (.int (iI b)), some (.int (iI (A.1 a.toNat : Int))), some (.int (iI (((0 : Nat) : Int) + 1))), none, none, none] [] (0, 0) t = some (.int (iI (towO A a.toNat (A.2.1 b.toNat)).1), w') ∧ IM w' (towO A a.toNat (A.2.1 b.toNat)).2 ∧ mFr w w' := by
          unfold towO
          generalize hN : A.1 a.toNat = n at *
          generalize hC : A.2.1 a.toNat = C at *
          generalize hD : A.2.1 b.toNat = D at *
          refine x_nest (fun (i : Nat) (_ : Unit) (u : Option Value × Option Value × Option Value) => xr M_toward 0 46 [some (.ref 34), some (.int (iI a)), some (.int (iI b)), some (.int (iI (n : Int))), some (.int (iI ((i : Int) + 1))), u.1, u.2.1, u.2.2] [] (0, 0) t)
            (fun (i j : Nat) (_ : Unit) (u : Option Value × Option Value) => xr M_toward 0 55 [some (.ref 34), some (.int (iI a)), some (.int (iI b)), some (.int (iI (n : Int))), some (.int (iI ((i : Int) + 1))), some (.int (iI ((j : Int) + 1))), u.1, u.2] [] (0, 0) t) (n - 1) (fun _ => n - 1)
            (fun i j _ => ∀ r c, (r < i + 1 ∨ r = i + 1 ∧ c < j + 1) → ¬ towP n C D r c) (fun o => ∃ w', o = some (.int (iI _), w') ∧ IM w' _ ∧ mFr w w')
            (fun i s u hi hp => ⟨u.2, ?_⟩) (fun i j s v hi hj hp => ?_) (fun i s v hi hp => ⟨(some (.int (iI n)), v), ?_, fun r c hr hq => ?_⟩) (fun s u hp => ?_) () (none, none, none) (fun r c hr hq => by have := hq.1; omega)
          · rw [q_M_toward_46]
            exact s_lef (by omega) rfl
          · have b1 := ta.2.1.bd (i := i + 1) (j := j + 1) (by omega) (by omega)
            have b2 := tb'.2.1.bd (i := i + 1) (j := j + 1) (by omega) (by omega)
            generalize hx : C (i + 1) (j + 1) = x at *
            generalize hy : D (i + 1) (j + 1) = y at *
            have run : ∀ o, (if iI (if y < x then -1 else if y = x then 0 else 1) = 0 then xr M_toward 0 133 [some (.ref 34), some (.int (iI a)), some (.int (iI b)), some (.int (iI (n : Int))), some (.int (iI ((i : Int) + 1))), some (.int (iI ((j : Int) + 1))), some (.int (iI x)), some (.int (iI (if y < x then -1 else if y = x then 0 else 1)))] [] (0, 0) t else xg (xrv (.ref 34) 7) (xbI (xm M_mayBe 0 [.ref 34, .int (iI a), .int (iI ((i : Int) + 1)), .int (iI ((j : Int) + 1)), .int (iI x + iI (if y < x then -1 else if y = x then 0 else 1))] t) (fun r_8 w_7 => if r_8 = 0 then xr M_toward 0 133 [some (.ref 34), some (.int (iI a)), some (.int (iI b)), some (.int (iI (n : Int))), some (.int (iI ((i : Int) + 1))), some (.int (iI ((j : Int) + 1))), some (.int (iI x)), some (.int (iI (if y < x then -1 else if y = x then 0 else 1)))] [] (0, 0) w_7 else xr M_toward 0 113 [some (.ref 34), some (.int (iI a)), some (.int (iI b)), some (.int (iI (n : Int))), some (.int (iI ((i : Int) + 1))), some (.int (iI ((j : Int) + 1))), some (.int (iI x)), some (.int (iI (if y < x then -1 else if y = x then 0 else 1)))] [] (0, 0) w_7))) = o → xr M_toward 0 55 [some (.ref 34), some (.int (iI a)), some (.int (iI b)), some (.int (iI (n : Int))), some (.int (iI ((i : Int) + 1))), some (.int (iI ((j : Int) + 1))), v.1, v.2] [] (0, 0) t = o := by
              intro o ho
              rw [q_M_toward_55]
              have c1 := r_corner h0.1 ta (zp := a) (zi := (i : Int) + 1) (zj := (j : Int) + 1) (by omega) (i + 1) (j + 1) (by omega)
              have c2 := r_corner h0.1 tb' (zp := b) (zi := (i : Int) + 1) (zj := (j : Int) + 1) (by omega) (i + 1) (j + 1) (by omega)
              rw [hx] at c1
              rw [hy] at c2
              exact s_lef (by omega) (s_g rfl (s_I c1 (s_g rfl (s_I c2 (s_I (m_compare (by omega) (by omega) t) ho)))))
            have step : ∀ g : Int, ¬ towP n C D (i + 1) (j + 1) → xr M_toward 0 55 [some (.ref 34), some (.int (iI a)), some (.int (iI b)), some (.int (iI (n : Int))), some (.int (iI ((i : Int) + 1))), some (.int (iI ((j : Int) + 1))), v.1, v.2] [] (0, 0) t = xr M_toward 0 133 [some (.ref 34), some (.int (iI a)), some (.int (iI b)), some (.int (iI (n : Int))), some (.int (iI ((i : Int) + 1))), some (.int (iI ((j : Int) + 1))), some (.int (iI x)), some (.int (iI g))] [] (0, 0) t → ∃ (s' : Unit) (v' : Option Value × Option Value), xr M_toward 0 55 [some (.ref 34), some (.int (iI a)), some (.int (iI b)), some (.int (iI (n : Int))), some (.int (iI ((i : Int) + 1))), some (.int (iI ((j : Int) + 1))), v.1, v.2] [] (0, 0) t = xr M_toward 0 55 [some (.ref 34), some (.int (iI a)), some (.int (iI b)), some (.int (iI (n : Int))), some (.int (iI ((i : Int) + 1))), some (.int (iI (((j + 1 : Nat) : Int) + 1))), v'.1, v'.2] [] (0, 0) t ∧ ∀ r c, (r < i + 1 ∨ r = i + 1 ∧ c < j + 1 + 1) → ¬ towP n C D r c := by
              intro g hno he
              refine ⟨(), (some (.int (iI x)), some (.int (iI g))), ?_, fun r c hr => ?_⟩
              · rw [he, q_M_toward_133, iI_add]; rfl
              · by_cases q : r = i + 1 ∧ c = j + 1
                · rw [q.1, q.2]; exact hno
                · exact hp r c (by omega)
            by_cases q0 : y = x
            · refine Or.inr (step 0 (fun q => q.2.1 (by rw [hx, hy]; exact q0)) (run _ ?_))
              rw [if_neg (by omega : ¬ y < x), if_pos q0]
              exact s_t rfl rfl
            · have hs : (if y < x then -1 else if y = x then 0 else 1) = sg (y - x) := by
                unfold sg
                by_cases q : y < x
                · rw [if_pos q, if_neg (by omega)]
                · rw [if_neg q, if_neg q0, if_pos (by omega)]
              rw [hs] at run
              have so := sg_or (y - x)
              have mb := r_mayBe h0.1 ta (z := a) (zi := (i : Int) + 1) (zj := (j : Int) + 1) (by omega) (i + 1) (j + 1) (by omega) (sg_or (y - x)) rfl
              rw [hx] at mb
              cases hc : canS C (i + 1) (j + 1) (sg (y - x)) with
              | true =>
                rw [hc] at mb
                have hF : isF (towP n C D) (i + 1, j + 1) := ⟨⟨by omega, by rw [hx, hy]; exact q0, by rw [hx, hy]; exact hc⟩, hp⟩
                obtain ⟨w', k1, k2, k3, k4⟩ := r_changes h0.1 ta (z := a) (zi := (i : Int) + 1) (zj := (j : Int) + 1) (d := sg (y - x)) (by omega) (i + 1) (j + 1) (by omega) hc
                refine Or.inl ?_
                rw [frst_some hF]
                dsimp only
                refine ⟨w', run _ (s_f (fun z => ?_) (s_g rfl ?_)), ?_, f0.tr k2⟩
                · have := (iI_eq (a := sg (y - x)) (b := 0) (by omega) (by omega)).mp z
                  omega
                · rw [iI_add]
                  refine s_I mb (s_bt rfl ?_)
                  rw [q_M_toward_113]
                  refine s_g rfl (s_V k1 ?_)
                  rw [iI_mul, iI_add]; rfl
                · have := IM_setT h0 (by omega) (k2.1.G h0.1) k4 k3.1 k3.2.1 k3.2.2.1 k3.2.2.2.1 k3.2.2.2.2
                  rw [hx] at this
                  rw [hx, hy]; exact this
              | false =>
                rw [hc] at mb
                refine Or.inr (step (sg (y - x)) (fun q => by have := q.2.2; rw [hx, hy, hc] at this; cases this) (run _ (s_f (fun z => ?_) (s_g rfl ?_))))
                · have := (iI_eq (a := sg (y - x)) (b := 0) (by omega) (by omega)).mp z
                  omega
                · rw [iI_add]
                  exact s_I mb (s_bf rfl rfl)
          · have e : ((n - 1 : Nat) : Int) + 1 = n := by omega
            rw [e, q_M_toward_55]
            refine s_let (by omega) ?_
            rw [q_M_toward_139, iI_add]; rfl
          · by_cases q : r < i + 1 ∨ r = i + 1 ∧ c < n - 1 + 1
            · exact hp r c q hq
            · have := hq.1; omega
          · have e : ((n - 1 : Nat) : Int) + 1 = n := by omega
            rw [frst_none (fun r c hq => hp r c (by have := hq.1; omega) hq)]
            dsimp only
            refine ⟨t, ?_, h0, f0⟩
            rw [e, q_M_toward_46]
            refine s_let (by omega) ?_
            rw [q_M_toward_145]
        obtain ⟨w', k1, k2, k3⟩ := key
        refine ⟨w', s_g rfl (s_I (r_isPlace ha) (s_pt h2 (s_I (r_isPlace hb) (s_pt h3 (s_g rfl (s_o p1 (s_g p2 (s_g rfl (s_o p4 (s_g p5 ?_)))))))))), k2, k3⟩
        rw [p3, p6]
        refine s_eqt (by omega) ?_
        rw [q_M_toward_36]
        refine s_g rfl (s_o p1 (s_g p2 ?_))
        rw [p3]; exact k1
      · refine no (fun q => h4 q.2.2) _ (s_g rfl (s_I (r_isPlace ha) (s_pt h2 (s_I (r_isPlace hb) (s_pt h3 (s_g rfl (s_o p1 (s_g p2 (s_g rfl (s_o p4 (s_g p5 ?_)))))))))))
        rw [p3, p6]
        exact s_eqf (by omega) rfl
    · exact no (fun q => h3 q.2.1) _ (s_g rfl (s_I (r_isPlace ha) (s_pt h2 (s_I (r_isPlace hb) (s_pf h3 rfl)))))
  · exact no (fun q => h2 q.1) _ (s_g rfl (s_I (r_isPlace ha) (s_pf h2 rfl)))
end XMOD
