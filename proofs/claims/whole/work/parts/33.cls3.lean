/-! ===== THE CLASS, 3 (own work): steps, turns, moves ===== -/
section XCLS
variable {w : XW} {A : AS}
def upD (up : Bool) : Int := match up with
  | true => 1
  | false => -1
theorem upD_or (up : Bool) : upD up = 1 ∨ upD up = -1 := by cases up; exact Or.inr rfl; exact Or.inl rfl
def o_step (A : AS) (z zi zj : Int) (up : Bool) : Bool × AS := if ((0 ≤ z ∧ z < 8) ∧ (1 ≤ zi ∧ zi ≤ (A.1 z.toNat : Int) - 1 ∧ 1 ≤ zj ∧ zj ≤ (A.1 z.toNat : Int) - 1)) ∧ canS (A.2.1 z.toNat) zi.toNat zj.toNat (upD up) = true then (true, setT A z.toNat (A.1 z.toNat) (upC (A.2.1 z.toNat) zi.toNat zj.toNat (A.2.1 z.toNat zi.toNat zj.toNat + upD up))) else (false, A)
theorem fr_one {w' : XW} {a : Nat} (f : xFr (fun q => q == a + 1) w w') : xFr (fun q => q == a || q == a + 1) w w' := f.wk (fun q _ hq => by rw [hq]; exact Bool.or_true _)
theorem c_step (h : IC w A) {z zi zj : Int} (up : Bool) (hz : i32 z) (hi : i32 zi) (hj : i32 zj) : ∃ w', xm B_step 0 [.ref 0, .int (iI z), .int (iI zi), .int (iI zj), .int (bI up)] w = some (.int (bI (o_step A z zi zj up).1), w') ∧ IC w' (o_step A z zi zj up).2 ∧ xFr cT w w' := by
  rw [e_B_step, q_B_step_0]
  by_cases h1 : 0 ≤ z ∧ z < 8
  · have t := (h.2.1 z.toNat (by omega))
    have run : ∀ x, (xr B_step 0 26 [some (.ref 0), some (.int (iI z)), some (.int (iI zi)), some (.int (iI zj)), some (.int (bI up)), some (.ref (18 + 2 * z.toNat))] [.int (iI (upD up)), .int (iI zj), .int (iI zi), .ref (18 + 2 * z.toNat)] (0, 0) w = x) → (if bI up = 0 then xr B_step 0 25 [some (.ref 0), some (.int (iI z)), some (.int (iI zi)), some (.int (iI zj)), some (.int (bI up)), some (.ref (18 + 2 * z.toNat))] [.int (iI zj), .int (iI zi), .ref (18 + 2 * z.toNat)] (0, 0) w else xr B_step 0 26 [some (.ref 0), some (.int (iI z)), some (.int (iI zi)), some (.int (iI zj)), some (.int (bI up)), some (.ref (18 + 2 * z.toNat))] [.int (iI 1), .int (iI zj), .int (iI zi), .ref (18 + 2 * z.toNat)] (0, 0) w) = x := by
      intro x hx
      cases up with
      | true => exact s_bt rfl hx
      | false =>
        refine s_bf rfl ?_
        rw [q_B_step_25]; exact hx
    by_cases h2 : 1 ≤ zi ∧ zi ≤ (A.1 z.toNat : Int) - 1 ∧ 1 ≤ zj ∧ zj ≤ (A.1 z.toNat : Int) - 1
    · have sh := m_shift t.1 (zi := zi) (zj := zj) zi.toNat zj.toNat (by omega) (upD_or up)
      cases hc : canS (A.2.1 z.toNat) zi.toNat zj.toNat (upD up) with
      | true =>
        rw [hc, if_pos rfl] at sh
        have f : xFr (fun q => q == 18 + 2 * z.toNat || q == 18 + 2 * z.toNat + 1) w (xpI w (18 + 2 * z.toNat + 1) (zi.toNat * 11 + zj.toNat) (iI (A.2.1 z.toNat zi.toNat zj.toNat + upD up))) := fr_one (fr_pI (beq_self_eq_true _))
        rw [show o_step A z zi zj up = (true, setT A z.toNat (A.1 z.toNat) (upC (A.2.1 z.toNat) zi.toNat zj.toNat (A.2.1 z.toNat zi.toNat zj.toNat + upD up))) from if_pos ⟨⟨h1, h2⟩, hc⟩]
        have tn := t.1.2.2.1
        refine ⟨_, s_g rfl (s_A (c_tab h.1 z.toNat (by omega)) (s_g rfl (s_g rfl (s_nr (s_g rfl (run _ ?_)))))), IC_set h (by omega) f (tb_up t.1 (by omega) hc) (zr_up t.2 (by omega)), fr_cT (by omega) f⟩
        rw [q_B_step_26]
        refine s_g (T_rv t.1.1) (s_I sh (s_bt rfl ?_))
        rw [q_B_step_37, xbz_1]
      | false =>
        rw [hc, if_neg (by decide)] at sh
        rw [show o_step A z zi zj up = (false, A) from if_neg (fun q => by rw [hc] at q; cases q.2)]
        refine ⟨w, s_g rfl (s_A (c_tab h.1 z.toNat (by omega)) (s_g rfl (s_g rfl (s_nr (s_g rfl (run _ ?_)))))), h, xFr.rf _ _⟩
        rw [q_B_step_26]
        refine s_g (T_rv t.1.1) (s_I sh (s_bf rfl ?_))
        rw [q_B_step_36, q_B_step_37, xbz_0]
    · rw [show o_step A z zi zj up = (false, A) from if_neg (fun q => h2 q.1.2)]
      refine ⟨w, s_g rfl (s_A (c_tab h.1 z.toNat (by omega)) (s_g rfl (s_g rfl (s_nr (s_g rfl (run _ ?_)))))), h, xFr.rf _ _⟩
      rw [q_B_step_26]
      refine s_g (T_rv t.1.1) (s_I (m_shift_out t.1 hi hj h2) (s_bf rfl ?_))
      rw [q_B_step_36, q_B_step_37, xbz_0]
  · rw [show o_step A z zi zj up = (false, A) from if_neg (fun q => h1 q.1.1)]
    refine ⟨w, s_g rfl (s_An (c_tabN hz h1) (s_g rfl (s_g rfl (s_nn ?_)))), h, xFr.rf _ _⟩
    rw [q_B_step_36, q_B_step_37, xbz_0]
noncomputable def towO (A : AS) (p : Nat) (D : Nat → Nat → Int) : Int × AS := match frst (towP (A.1 p) (A.2.1 p) D) with
  | some (i, j) => (100 * (i : Int) + j, setT A p (A.1 p) (upC (A.2.1 p) i j (A.2.1 p i j + sg (D i j - A.2.1 p i j))))
  | none => (-1, A)
noncomputable def o_toward (A : AS) (z b : Int) : Int × AS := @ite _ ((0 ≤ z ∧ z < 8) ∧ (0 ≤ b ∧ b < 8) ∧ A.1 z.toNat = A.1 b.toNat) (Classical.propDecidable _) (towO A z.toNat (A.2.1 b.toNat)) (-1, A)
theorem frst_p {p : Nat → Nat → Prop} {q : Nat × Nat} (h : frst p = some q) : isF p q := by
  unfold frst at h
  by_cases hx : ∃ q, isF p q
  · rw [dif_pos hx] at h
    cases h
    exact Classical.choose_spec hx
  · rw [dif_neg hx] at h; cases h
theorem c_toward (h : IC w A) {z b : Int} (hz : i32 z) (hb : i32 b) : ∃ w', xm B_toward 0 [.ref 0, .int (iI z), .int (iI b)] w = some (.int (iI (o_toward A z b).1), w') ∧ IC w' (o_toward A z b).2 ∧ xFr cT w w' := by
  rw [e_B_toward, q_B_toward_0]
  by_cases h2 : (0 ≤ z ∧ z < 8) ∧ (0 ≤ b ∧ b < 8) ∧ A.1 z.toNat = A.1 b.toNat
  · obtain ⟨p1, p2, p3⟩ := c_place h.1 h2.1
    obtain ⟨p4, p5, p6⟩ := c_place h.1 h2.2.1
    have ta := (h.2.1 z.toNat (by omega))
    have tb' := (h.2.1 b.toNat (by omega)).1
    rw [← h2.2.2] at tb'
    have st := m_stepToward ta.1 tb'
    rw [show o_toward A z b = towO A z.toNat (A.2.1 b.toNat) from if_pos h2]
    unfold towO
    cases hf : frst (towP (A.1 z.toNat) (A.2.1 z.toNat) (A.2.1 b.toNat)) with
    | none =>
      rw [hf] at st
      refine ⟨w, s_g rfl (s_I (c_oneSize h hz hb) (s_pt h2 (s_g rfl (s_o p1 (s_g p2 (s_o p3 (s_g rfl (s_o p4 (s_g p5 (s_o p6 (s_g (T_rv ta.1.1) (s_I st ?_)))))))))))), h, xFr.rf _ _⟩
      rw [q_B_toward_28]
    | some q =>
      obtain ⟨i, j⟩ := q
      rw [hf] at st
      have hF := (frst_p hf).1
      have tn := ta.1.2.2.1
      have f : xFr (fun q => q == 18 + 2 * z.toNat || q == 18 + 2 * z.toNat + 1) w (xpI w (18 + 2 * z.toNat + 1) (i * 11 + j) (iI (A.2.1 z.toNat i j + sg (A.2.1 b.toNat i j - A.2.1 z.toNat i j)))) := fr_one (fr_pI (beq_self_eq_true _))
      have hr : 1 ≤ i ∧ i < A.1 z.toNat ∧ 1 ≤ j ∧ j < A.1 z.toNat := hF.1
      refine ⟨_, s_g rfl (s_I (c_oneSize h hz hb) (s_pt h2 (s_g rfl (s_o p1 (s_g p2 (s_o p3 (s_g rfl (s_o p4 (s_g p5 (s_o p6 (s_g (T_rv ta.1.1) (s_I st ?_)))))))))))), IC_set h (by omega) f (tb_up ta.1 hr hF.2.2) (zr_up ta.2 (by omega)), fr_cT (by omega) f⟩
      rw [q_B_toward_28]
  · rw [show o_toward A z b = (-1, A) from if_neg h2]
    refine ⟨w, s_g rfl (s_I (c_oneSize h hz hb) (s_pf h2 ?_)), h, xFr.rf _ _⟩
    rw [q_B_toward_27, q_B_toward_28]
def o_turn (A : AS) (z : Int) : Bool × AS := if 0 ≤ z ∧ z < 8 then (true, setT A z.toNat (A.1 z.toNat) (turnC (A.1 z.toNat) (turnC (A.1 z.toNat) (A.2.1 z.toNat) 0) 1)) else (false, A)
theorem c_turn (h : IC w A) {z : Int} (hz : i32 z) : ∃ w', xm B_turn 0 [.ref 0, .int (iI z)] w = some (.int (bI (o_turn A z).1), w') ∧ IC w' (o_turn A z).2 ∧ xFr cT w w' := by
  rw [e_B_turn, q_B_turn_0]
  by_cases h1 : 0 ≤ z ∧ z < 8
  · have t := (h.2.1 z.toNat (by omega))
    obtain ⟨w1, a1, a2, a3, a4⟩ := m_turnSquares t.1 t.2 (par := 0) (by decide)
    obtain ⟨w2, b1, b2, b3, b4⟩ := m_turnSquares a2 a3 (par := 1) (by decide)
    have f := fr_one (a4.tr b4)
    rw [show o_turn A z = (true, setT A z.toNat (A.1 z.toNat) (turnC (A.1 z.toNat) (turnC (A.1 z.toNat) (A.2.1 z.toNat) 0) 1)) from if_pos h1]
    refine ⟨w2, s_g rfl (s_A (c_tab h.1 z.toNat (by omega)) (s_g rfl (s_g rfl (s_nr ?_)))), IC_set h (by omega) f b2 b3, fr_cT (by omega) f⟩
    rw [q_B_turn_12]
    refine s_g rfl (s_g (T_rv t.1.1) (s_V a1 (s_g rfl (s_g (T_rv t.1.1) (s_V b1 ?_)))))
    rw [xbz_1]
  · rw [show o_turn A z = (false, A) from if_neg h1]
    refine ⟨w, s_g rfl (s_An (c_tabN hz h1) (s_g rfl (s_g rfl (s_nn ?_)))), h, xFr.rf _ _⟩
    rw [xbz_0]
def o_move (A : AS) (z m : Int) : Bool × AS := if (0 ≤ z ∧ z < 8) ∧ (0 ≤ m ∧ m ≤ 2) then (true, setT A z.toNat (A.1 z.toNat) (movC (A.1 z.toNat) (A.2.1 z.toNat) m.toNat)) else (false, A)
theorem c_move (h : IC w A) {z m : Int} (hz : i32 z) (hm : i32 m) : ∃ w', xm B_move 0 [.ref 0, .int (iI z), .int (iI m)] w = some (.int (bI (o_move A z m).1), w') ∧ IC w' (o_move A z m).2 ∧ xFr cT w w' := by
  rw [e_B_move, q_B_move_0]
  by_cases h1 : 0 ≤ z ∧ z < 8
  · have t := (h.2.1 z.toNat (by omega))
    by_cases h2 : 0 ≤ m ∧ m ≤ 2
    · obtain ⟨w1, a1, a2, a3, a4⟩ := m_becomeMoved (a := 2) (Or.inl rfl) h.2.2.1 t.1 (by omega) (zm := m) m.toNat (by omega)
      obtain ⟨w2, b1, b2, b3, b4⟩ := m_become (a := 18 + 2 * z.toNat) (isT_p (by omega)) a3 a4 (by omega)
      have hI1 : IC w1 A := by
        refine ⟨a2.G h.1, fun q hq => ⟨(h.2.1 q hq).1.fr a2 (by simp only [Bool.or_eq_false_iff, beq_eq_false_iff_ne]; omega) (by simp only [Bool.or_eq_false_iff, beq_eq_false_iff_ne]; omega), (h.2.1 q hq).2.fr (isT_p hq) a2 (by simp only [Bool.or_eq_false_iff, beq_eq_false_iff_ne]; omega)⟩, a4, h.2.2.2.fr a2 (by decide) (by decide)⟩
      rw [show o_move A z m = (true, setT A z.toNat (A.1 z.toNat) (movC (A.1 z.toNat) (A.2.1 z.toNat) m.toNat)) from if_pos ⟨h1, h2⟩]
      refine ⟨w2, s_g rfl (s_A (c_tab h.1 z.toNat (by omega)) (s_g rfl (s_g rfl (s_nr (s_I (m_isWithin hm (by omega) (by omega) w) (s_pt h2 ?_)))))), IC_set hI1 (by omega) b2 b3 b4, (a2.wk (fun q _ hq => ?_)).tr (fr_cT (by omega) b2)⟩
      · rw [q_B_move_21]
        refine s_g rfl (s_o (h.1.r (by decide) rfl) (s_g rfl (s_g rfl (s_g rfl (s_V a1 (s_g rfl (s_g rfl (s_o ((a2.G h.1).r (by decide) rfl) (s_g (T_rv (isT_p (by omega))) (s_V b1 ?_))))))))))
        rw [xbz_1]
      · simp only [Bool.or_eq_true, beq_iff_eq] at hq
        simp only [cT, Bool.or_eq_true, Bool.and_eq_true, decide_eq_true_eq]
        omega
    · rw [show o_move A z m = (false, A) from if_neg (fun q => h2 q.2)]
      refine ⟨w, s_g rfl (s_A (c_tab h.1 z.toNat (by omega)) (s_g rfl (s_g rfl (s_nr (s_I (m_isWithin hm (by omega) (by omega) w) (s_pf h2 ?_)))))), h, xFr.rf _ _⟩
      rw [q_B_move_19, xbz_0]
  · rw [show o_move A z m = (false, A) from if_neg (fun q => h1 q.1)]
    refine ⟨w, s_g rfl (s_An (c_tabN hz h1) (s_g rfl (s_g rfl (s_nn ?_)))), h, xFr.rf _ _⟩
    rw [q_B_move_19, xbz_0]
end XCLS
