/-! ===== THE CLASS, 1 (own work): the bench's state; what its plain methods answer ===== -/
abbrev AS : Type := (Nat → Nat) × (Nat → Nat → Nat → Int) × Nat × Nat × (Nat → Int)
def setT (A : AS) (p n : Nat) (C : Nat → Nat → Int) : AS := (fun q => if q = p then n else A.1 q, fun q => if q = p then C else A.2.1 q, A.2.2)
def setD (A : AS) (s n : Nat) (d : Nat → Int) : AS := (A.1, A.2.1, s, n, d)
def IC (w : XW) (A : AS) : Prop := XG w ∧ (∀ p, p < 8 → tb w (18 + 2 * p) (A.1 p) (A.2.1 p) ∧ zr w (18 + 2 * p)) ∧ zr w 2 ∧ dr w A.2.2.1 A.2.2.2.1 A.2.2.2.2
/-- the class's cells but for its caches -/
def cT (q : Nat) : Bool := decide (q < 6) || (decide (18 ≤ q) && decide (q < 34))
theorem IC_set {w w' : XW} {A : AS} {p n : Nat} {C : Nat → Nat → Int} (h : IC w A) (hp : p < 8) (f : xFr (fun q => q == 18 + 2 * p || q == 18 + 2 * p + 1) w w') (ht : tb w' (18 + 2 * p) n C) (hz : zr w' (18 + 2 * p)) : IC w' (setT A p n C) := by
  refine ⟨f.G h.1, fun q hq => ?_, h.2.2.1.fr (Or.inl rfl) f (by simp only [Bool.or_eq_false_iff, beq_eq_false_iff_ne]; omega), h.2.2.2.fr f (by simp only [Bool.or_eq_false_iff, beq_eq_false_iff_ne]; omega) (by simp only [Bool.or_eq_false_iff, beq_eq_false_iff_ne]; omega)⟩
  show tb w' (18 + 2 * q) (if q = p then n else A.1 q) (if q = p then C else A.2.1 q) ∧ zr w' (18 + 2 * q)
  by_cases e : q = p
  · rw [if_pos e, if_pos e, e]; exact ⟨ht, hz⟩
  · rw [if_neg e, if_neg e]
    exact ⟨(h.2.1 q hq).1.fr f (by simp only [Bool.or_eq_false_iff, beq_eq_false_iff_ne]; omega) (by simp only [Bool.or_eq_false_iff, beq_eq_false_iff_ne]; omega), (h.2.1 q hq).2.fr (isT_p hq) f (by simp only [Bool.or_eq_false_iff, beq_eq_false_iff_ne]; omega)⟩
theorem IC_fr {w w' : XW} {A : AS} {S : Nat → Bool} (h : IC w A) (f : xFr S w w') (hS : ∀ q, (3 ≤ q ∧ q < 6) ∨ (18 ≤ q ∧ q < 34) → S q = false) : IC w' A :=
  ⟨f.G h.1, fun q hq => ⟨(h.2.1 q hq).1.fr f (hS _ (by omega)) (hS _ (by omega)), (h.2.1 q hq).2.fr (isT_p hq) f (hS _ (by omega))⟩, h.2.2.1.fr (Or.inl rfl) f (hS 3 (by omega)), h.2.2.2.fr f (hS 4 (by omega)) (hS 5 (by omega))⟩
theorem fr_cT {w w' : XW} {p : Nat} (hp : p < 8) (f : xFr (fun q => q == 18 + 2 * p || q == 18 + 2 * p + 1) w w') : xFr cT w w' := f.wk (fun q _ hq => by
  simp only [Bool.or_eq_true, beq_iff_eq] at hq
  simp only [cT, Bool.or_eq_true, Bool.and_eq_true, decide_eq_true_eq]
  omega)
section XSTEP2
variable {α : Type}
theorem s_nr {a : Nat} {A B x : Option α} (k : B = x) : xnl (.ref a) A B = x := k
theorem s_nn {A B x : Option α} (k : A = x) : xnl .null A B = x := k
theorem s_de {a : Nat} {f : Nat → Option α} {x : Option α} (k : f a = x) : xde (.ref a) f = x := k
end XSTEP2
section XCLS
variable {w : XW} {A : AS}
theorem c_tab (hG : XG w) {z : Int} (p : Nat) (hp : z = p ∧ p < 8) : xm B_tableOf 0 [.ref 0, .int (iI z)] w = some (.ref (18 + 2 * p), w) := by
  obtain ⟨rfl, hp⟩ := hp
  rw [e_B_tableOf, q_B_tableOf_0]
  refine s_I (m_isWithin (by omega) (by omega) (by omega) w) (s_pt (by omega) (s_g rfl (s_o (hG.r (by decide) rfl) (s_g (xin_t (n := 8) (by omega)) ?_))))
  rw [iI_natk p (by omega)]
  refine s_o (hG.2.2 p hp) ?_
  rw [q_B_tableOf_20]; rfl
theorem c_tabN {z : Int} (hz : i32 z) (hp : ¬ (0 ≤ z ∧ z < 8)) : xm B_tableOf 0 [.ref 0, .int (iI z)] w = some (.null, w) := by
  rw [e_B_tableOf, q_B_tableOf_0]
  refine s_I (m_isWithin hz (by omega) (by omega) w) (s_pf (by omega) ?_)
  rw [q_B_tableOf_19, q_B_tableOf_20]; rfl
theorem c_isSize {z : Int} (hz : i32 z) : xm B_isSize 0 [.int (iI z)] w = some (.int (bI (decide (1 ≤ z ∧ z ≤ 10))), w) := by
  rw [e_B_isSize, q_B_isSize_0]
  exact s_I (m_isWithin hz (by omega) (by omega) w) (xbz_b _ _)
def oneS (A : AS) (a b : Int) : Prop := (0 ≤ a ∧ a < 8) ∧ (0 ≤ b ∧ b < 8) ∧ A.1 a.toNat = A.1 b.toNat
theorem c_oneSize (h : IC w A) {a b : Int} (ha : i32 a) (hb : i32 b) : xm B_areOfOneSize 0 [.ref 0, .int (iI a), .int (iI b)] w = some (.int (bI (decide ((0 ≤ a ∧ a < 8) ∧ (0 ≤ b ∧ b < 8) ∧ A.1 a.toNat = A.1 b.toNat))), w) := by
  rw [e_B_areOfOneSize, q_B_areOfOneSize_0]
  have no : ∀ v3 v4, ¬ ((0 ≤ a ∧ a < 8) ∧ (0 ≤ b ∧ b < 8) ∧ A.1 a.toNat = A.1 b.toNat) → xr B_areOfOneSize 0 38 [some (.ref 0), some (.int (iI a)), some (.int (iI b)), some v3, some v4] [] (0, 0) w = some (.int (bI (decide ((0 ≤ a ∧ a < 8) ∧ (0 ≤ b ∧ b < 8) ∧ A.1 a.toNat = A.1 b.toNat))), w) := fun v3 v4 q => by
    rw [q_B_areOfOneSize_38, q_B_areOfOneSize_39, xbz_0, decide_eq_false q]
  by_cases h1 : 0 ≤ a ∧ a < 8
  · refine s_g rfl (s_A (c_tab h.1 a.toNat (by omega)) (s_g rfl (s_g rfl ?_)))
    have ta := (h.2.1 a.toNat (by omega)).1
    by_cases h2 : 0 ≤ b ∧ b < 8
    · have tb' := (h.2.1 b.toNat (by omega)).1
      refine s_A (c_tab h.1 b.toNat (by omega)) (s_g rfl (s_g rfl (s_nr (s_g rfl (s_nr (s_g rfl (s_de (s_g (T_ok ta.1) (s_g rfl (s_de (s_g (T_ok tb'.1) ?_)))))))))))
      rw [ta.2.2.2.1, tb'.2.2.2.1]
      have r1 := ta.2.2.1
      have r2 := tb'.2.2.1
      by_cases h3 : A.1 a.toNat = A.1 b.toNat
      · refine s_eqt (by omega) ?_
        rw [q_B_areOfOneSize_39, xbz_1, decide_eq_true ⟨h1, h2, h3⟩]
      · exact s_eqf (by omega) (no _ _ (fun q => h3 q.2.2))
    · exact s_An (c_tabN hb h2) (s_g rfl (s_g rfl (s_nr (s_g rfl (s_nn (no _ _ (fun q => h2 q.2.1)))))))
  · refine s_g rfl (s_An (c_tabN ha h1) (s_g rfl (s_g rfl ?_)))
    by_cases h2 : 0 ≤ b ∧ b < 8
    · exact s_A (c_tab h.1 b.toNat (by omega)) (s_g rfl (s_g rfl (s_nn (no _ _ (fun q => h1 q.1)))))
    · exact s_An (c_tabN hb h2) (s_g rfl (s_g rfl (s_nn (no _ _ (fun q => h1 q.1)))))
/-! begin, put, fault, take -/
def o_begin (A : AS) (zs zn : Int) : Bool × AS := if (0 ≤ zs ∧ zs ≤ 2) ∧ (1 ≤ zn ∧ zn ≤ 10) then (true, setD A zs.toNat zn.toNat (fun _ => 0)) else (false, A)
theorem IC_dr {w' : XW} {s n : Nat} {d : Nat → Int} (h : IC w A) (f : xFr (fun q => q == 4 || q == 5) w w') (hd : dr w' s n d) : IC w' (setD A s n d) :=
  ⟨f.G h.1, fun q hq => ⟨(h.2.1 q hq).1.fr f (by simp only [Bool.or_eq_false_iff, beq_eq_false_iff_ne]; omega) (by simp only [Bool.or_eq_false_iff, beq_eq_false_iff_ne]; omega), (h.2.1 q hq).2.fr (isT_p hq) f (by simp only [Bool.or_eq_false_iff, beq_eq_false_iff_ne]; omega)⟩, h.2.2.1.fr (Or.inl rfl) f (by decide), hd⟩
theorem fr_cT45 {w' : XW} (f : xFr (fun q => q == 4 || q == 5) w w') : xFr cT w w' := f.wk (fun q _ hq => by
  simp only [Bool.or_eq_true, beq_iff_eq] at hq
  simp only [cT, Bool.or_eq_true, Bool.and_eq_true, decide_eq_true_eq]
  omega)
theorem c_begin (h : IC w A) {zs zn : Int} (hs : i32 zs) (hn : i32 zn) : ∃ w', xm B_begin 0 [.ref 0, .int (iI zs), .int (iI zn)] w = some (.int (bI (o_begin A zs zn).1), w') ∧ IC w' (o_begin A zs zn).2 ∧ xFr cT w w' := by
  rw [e_B_begin, q_B_begin_0, iI_zero]
  have no : ¬ ((0 ≤ zs ∧ zs ≤ 2) ∧ (1 ≤ zn ∧ zn ≤ 10)) → ∀ o, o = xr B_begin 0 16 [some (.ref 0), some (.int (iI zs)), some (.int (iI zn))] [] (0, 0) w → ∃ w', o = some (.int (bI (o_begin A zs zn).1), w') ∧ IC w' (o_begin A zs zn).2 ∧ xFr cT w w' := fun q o ho => by
    rw [show o_begin A zs zn = (false, A) from if_neg q]
    refine ⟨w, ?_, h, xFr.rf _ _⟩
    rw [ho, q_B_begin_16, xbz_0]
  by_cases h1 : zs < 0
  · exact no (by omega) _ (s_ltt (by omega) rfl)
  · by_cases h2 : 2 < zs
    · exact no (by omega) _ (s_ltf (by omega) (s_ltt (by omega) rfl))
    · by_cases h3 : 1 ≤ zn ∧ zn ≤ 10
      · obtain ⟨w', k1, k2, k3⟩ := m_clear (w := w) (s := zs.toNat) (n := zn.toNat) h.1 (zs := zs) (zn := zn) (by omega) (by omega)
        rw [show o_begin A zs zn = (true, setD A zs.toNat zn.toNat (fun _ => 0)) from if_pos ⟨by omega, h3⟩]
        refine ⟨w', s_ltf (by omega) (s_ltf (by omega) (s_I (c_isSize hn) (s_pt h3 ?_))), IC_dr h k2 k3, fr_cT45 k2⟩
        rw [q_B_begin_18]
        refine s_g rfl (s_o (h.1.r (by decide) rfl) (s_g rfl (s_V k1 ?_)))
        rw [xbz_1]
      · exact no (by omega) _ (s_ltf (by omega) (s_ltf (by omega) (s_I (c_isSize hn) (s_pf h3 rfl))))
def o_put (A : AS) (zi zj v : Int) : Bool × AS := if hasD A.2.2.1 A.2.2.2.1 zi zj = true then (true, setD A A.2.2.1 A.2.2.2.1 (fun k => if k = zi.toNat * 11 + zj.toNat then v else A.2.2.2.2 k)) else (false, A)
theorem hasD_rng {s n : Nat} {zi zj : Int} (hn : n ≤ 10) (h : hasD s n zi zj = true) : (0 ≤ zi ∧ zi ≤ 10) ∧ (0 ≤ zj ∧ zj ≤ 10) := by
  unfold hasD at h
  split at h <;> simp only [Bool.and_eq_true, decide_eq_true_eq] at h <;> omega
theorem c_put (h : IC w A) {zi zj v : Int} (hi : i32 zi) (hj : i32 zj) (hv : i32 v) : ∃ w', xm B_put 0 [.ref 0, .int (iI zi), .int (iI zj), .int (iI v)] w = some (.int (bI (o_put A zi zj v).1), w') ∧ IC w' (o_put A zi zj v).2 ∧ xFr cT w w' := by
  have hd := h.2.2.2
  rw [e_B_put, q_B_put_0]
  unfold o_put
  cases hh : hasD A.2.2.1 A.2.2.2.1 zi zj with
  | true =>
    have rg := hasD_rng hd.2.2.1.2 hh
    obtain ⟨w', k1, k2, k3⟩ := m_write hd (zi := zi) (zj := zj) zi.toNat zj.toNat (by omega) hv
    have f : xFr (fun q => q == 4 || q == 5) w w' := k2.wk (fun q _ hq => by rw [hq]; exact Bool.or_true _)
    rw [if_pos rfl]
    refine ⟨w', s_g rfl (s_o (h.1.r (by decide) rfl) (s_g rfl (s_I (m_has hd hi hj) (s_bt hh ?_)))), IC_dr h f k3, fr_cT45 f⟩
    rw [q_B_put_14]
    refine s_g rfl (s_o (h.1.r (by decide) rfl) (s_g rfl (s_V k1 ?_)))
    rw [xbz_1]
  | false =>
    rw [if_neg (by decide)]
    refine ⟨w, s_g rfl (s_o (h.1.r (by decide) rfl) (s_g rfl (s_I (m_has hd hi hj) (s_bf hh ?_)))), h, xFr.rf _ _⟩
    rw [xbz_0]
noncomputable def o_fault (A : AS) : Int := faultD A.2.2.1 A.2.2.2.1 A.2.2.2.2
theorem c_fault (h : IC w A) : xm B_fault 0 [.ref 0] w = some (.int (iI (o_fault A)), w) := by
  rw [e_B_fault, q_B_fault_0]
  exact s_g rfl (s_o (h.1.r (by decide) rfl) (s_g rfl (s_I (m_firstFault h.2.2.2) rfl)))
theorem fault_bd {s n : Nat} {d : Nat → Int} (hn : n ≤ 10) (hs : s ≤ 2) : 0 ≤ faultD s n d ∧ faultD s n d ≤ 3000 := by
  unfold faultD
  by_cases h0 : s = 0
  · rw [if_pos h0]
    unfold faultL
    split
    · omega
    · split <;> omega
  · rw [if_neg h0]
    unfold faultC
    cases hf : frst (cellBad s n d) with
    | none => dsimp only; omega
    | some q =>
      have hq : cellBad s n d q.1 q.2 := by
        unfold frst at hf
        by_cases hx : ∃ q, isF (cellBad s n d) q
        · rw [dif_pos hx] at hf
          cases hf
          exact (Classical.choose_spec hx).1
        · rw [dif_neg hx] at hf; cases hf
      dsimp only
      match s, hs, h0, hq with
      | 1, _, _, hq => have := hq.1; omega
      | 2, _, _, hq => have := hq.1; omega
noncomputable def o_take (A : AS) (z : Int) : Bool × AS := if (0 ≤ z ∧ z < 8) ∧ o_fault A = 0 then (true, setT A z.toNat A.2.2.2.1 (takeC A.2.2.1 A.2.2.2.2)) else (false, A)
theorem c_take (h : IC w A) {z : Int} (hz : i32 z) : ∃ w', xm B_take 0 [.ref 0, .int (iI z)] w = some (.int (bI (o_take A z).1), w') ∧ IC w' (o_take A z).2 ∧ xFr cT w w' := by
  have hd := h.2.2.2
  have fb := fault_bd (d := A.2.2.2.2) hd.2.2.1.2 hd.2.1
  rw [e_B_take, q_B_take_0]
  unfold o_take
  by_cases h1 : 0 ≤ z ∧ z < 8
  · by_cases h2 : o_fault A = 0
    · obtain ⟨w', k1, k2, k3, k4⟩ := m_copyTo hd h2 (isT_p (p := z.toNat) (by omega)) (h.2.1 z.toNat (by omega)).2
      rw [if_pos ⟨h1, h2⟩]
      refine ⟨w', s_g rfl (s_A (c_tab h.1 z.toNat (by omega)) (s_g rfl (s_g rfl (s_nr (s_g rfl (s_o (h.1.r (by decide) rfl) (s_g rfl (s_I (m_firstFault hd) ?_)))))))), IC_set h (by omega) k2 k3 k4, fr_cT (by omega) k2⟩
      rw [iI_zero]
      refine s_eqt h2 ?_
      rw [q_B_take_22]
      refine s_g rfl (s_o (h.1.r (by decide) rfl) (s_g rfl (s_g rfl (s_g rfl (s_V k1 ?_)))))
      rw [xbz_1]
    · rw [if_neg (fun q => h2 q.2)]
      refine ⟨w, s_g rfl (s_A (c_tab h.1 z.toNat (by omega)) (s_g rfl (s_g rfl (s_nr (s_g rfl (s_o (h.1.r (by decide) rfl) (s_g rfl (s_I (m_firstFault hd) ?_)))))))), h, xFr.rf _ _⟩
      have h3 : faultD A.2.2.1 A.2.2.2.1 A.2.2.2.2 ≠ 0 := h2
      rw [iI_zero]
      refine s_eqf (by omega) ?_
      rw [q_B_take_20, xbz_0]
  · rw [if_neg (fun q => h1 q.1)]
    refine ⟨w, s_g rfl (s_An (c_tabN hz h1) (s_g rfl (s_g rfl (s_nn ?_)))), h, xFr.rf _ _⟩
    rw [q_B_take_20, xbz_0]
end XCLS
