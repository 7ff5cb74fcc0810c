/-! ===== LOOPS, 3 (own work): the class follows a way ===== -/
def oS (q : Nat) : Bool := q == 13 || q == 14
theorem oS_no {q : Nat} (h : q ≠ 13 ∧ q ≠ 14) : oS q = false := by
  simp only [oS, Bool.or_eq_false_iff, beq_eq_false_iff_ne]; exact h
def lsD (s : XW) (R : Nat) (x : DX) : Prop := xIF s 13 1 = iI R ∧ xIF s 13 2 = iI (x.1 : Nat) ∧ xIF s 13 3 = iI (x.2.1 : Nat) ∧ xIF s 13 4 = iI (x.2.2 : Nat)
def mrk (s s' : XW) (R : Nat) (P : Nat → Prop) : Prop := (∀ j, P j → xIA s' 14 j = iI R) ∧ ∀ j, ¬ P j → xIA s' 14 j = xIA s 14 j
theorem mrk_rf (s : XW) (R : Nat) : mrk s s R (fun _ => False) := ⟨fun _ h => h.elim, fun _ _ => rfl⟩
theorem mrk_tr {s s1 s2 : XW} {R : Nat} {P Q : Nat → Prop} (h : mrk s s1 R P) (g : mrk s1 s2 R Q) : mrk s s2 R (fun j => P j ∨ Q j) := by
  refine ⟨fun j hj => ?_, fun j hj => ?_⟩
  · by_cases q : Q j
    · exact g.1 j q
    · rcases hj with z | z
      · rw [g.2 j q]; exact h.1 j z
      · exact absurd z q
  · rw [g.2 j (fun q => hj (Or.inr q)), h.2 j (fun q => hj (Or.inl q))]
theorem mrk_cg {s s' : XW} {R : Nat} {P Q : Nat → Prop} (h : mrk s s' R P) (e : ∀ j, P j ↔ Q j) : mrk s s' R Q := ⟨fun j hj => h.1 j ((e j).mpr hj), fun j hj => h.2 j (fun q => hj ((e j).mp q))⟩
theorem mrk_Z {s s' : XW} {R : Nat} {P : Nat → Prop} (h : mrk s s' R P) (j : Nat) : xIA s' 14 j = iI R ↔ (xIA s 14 j = iI R ∨ P j) := by
  by_cases q : P j
  · exact ⟨fun _ => Or.inr q, fun _ => h.1 j q⟩
  · rw [h.2 j q]
    exact ⟨Or.inl, fun z => z.resolve_right q⟩
theorem dn_ac : ∀ e, e < 4 → ∀ n r c : Nat, r < n → c < n → (ouD n r c e = true → ¬ ((0 ≤ (r : Int) + xsi 1 e ∧ (r : Int) + xsi 1 e ≤ (n : Int) - 1) ∧ (0 ≤ (c : Int) + xsi 2 e ∧ (c : Int) + xsi 2 e ≤ (n : Int) - 1))) ∧ (ouD n r c e = false → ((0 ≤ (r : Int) + xsi 1 e ∧ (r : Int) + xsi 1 e ≤ (n : Int) - 1) ∧ (0 ≤ (c : Int) + xsi 2 e ∧ (c : Int) + xsi 2 e ≤ (n : Int) - 1)) ∧ (r : Int) + xsi 1 e = (mvD r c e).1 ∧ (c : Int) + xsi 2 e = (mvD r c e).2.1 ∧ (iI (e : Int) + iI 2) &&& iI 3 = iI (mvD r c e).2.2) := by
  intro e he n r c hr hc
  rcases four he with rfl | rfl | rfl | rfl
  · have e1 : xsi 1 0 = -1 := rfl
    have e2 : xsi 2 0 = 0 := rfl
    rw [e1, e2]
    refine ⟨fun h => ?_, fun h => ?_⟩
    · have := of_decide_eq_true h; omega
    · have := of_decide_eq_false h
      exact ⟨by omega, show (r : Int) + -1 = ((r - 1 : Nat) : Int) by omega, show (c : Int) + 0 = ((c : Nat) : Int) by omega, (show iI ((0 : Nat) : Int) + iI 2 &&& iI 3 = iI ((2 : Nat) : Int) by decide)⟩
  · have e1 : xsi 1 1 = 0 := rfl
    have e2 : xsi 2 1 = 1 := rfl
    rw [e1, e2]
    refine ⟨fun h => ?_, fun h => ?_⟩
    · have := of_decide_eq_true h; omega
    · have := of_decide_eq_false h
      exact ⟨by omega, show (r : Int) + 0 = ((r : Nat) : Int) by omega, show (c : Int) + 1 = ((c + 1 : Nat) : Int) by omega, (show iI ((1 : Nat) : Int) + iI 2 &&& iI 3 = iI ((3 : Nat) : Int) by decide)⟩
  · have e1 : xsi 1 2 = 1 := rfl
    have e2 : xsi 2 2 = 0 := rfl
    rw [e1, e2]
    refine ⟨fun h => ?_, fun h => ?_⟩
    · have := of_decide_eq_true h; omega
    · have := of_decide_eq_false h
      exact ⟨by omega, show (r : Int) + 1 = ((r + 1 : Nat) : Int) by omega, show (c : Int) + 0 = ((c : Nat) : Int) by omega, (show iI ((2 : Nat) : Int) + iI 2 &&& iI 3 = iI ((0 : Nat) : Int) by decide)⟩
  · have e1 : xsi 1 3 = 0 := rfl
    have e2 : xsi 2 3 = -1 := rfl
    rw [e1, e2]
    refine ⟨fun h => ?_, fun h => ?_⟩
    · have := of_decide_eq_true h; omega
    · have := of_decide_eq_false h
      exact ⟨by omega, show (r : Int) + 0 = ((r : Nat) : Int) by omega, show (c : Int) + -1 = ((c - 1 : Nat) : Int) by omega, (show iI ((3 : Nat) : Int) + iI 2 &&& iI 3 = iI ((1 : Nat) : Int) by decide)⟩
section XLOP3
variable {w : XW} {a n : Nat} {C : Nat → Nat → Int}
theorem l_isSeen (hG : XG w) {zi zj : Int} (i j : Nat) (hh : zi = i ∧ zj = j ∧ i < 10 ∧ j < 10) : xm O_isSeen 0 [.ref 13, .int (iI zi), .int (iI zj)] w = some (.int (bI (decide (xIA w 14 (i * 10 + j) = xIF w 13 1))), w) := by
  obtain ⟨rfl, rfl, hi, hj⟩ := hh
  rw [e_O_isSeen, q_O_isSeen_0, iI_mul, iI_add]
  refine s_g rfl (s_o (hG.r (by decide) rfl) (s_g (xin_t (n := 100) (by omega)) (s_g rfl ?_)))
  rw [iI_nat (by omega), show ((i : Int) * 10 + j).toNat = i * 10 + j by omega]
  by_cases q : xIA w 14 (i * 10 + j) = xIF w 13 1
  · refine s_t q ?_
    rw [q_O_isSeen_23, xbz_1, decide_eq_true q]
  · refine s_f q ?_
    rw [q_O_isSeen_22, q_O_isSeen_23, xbz_0, decide_eq_false q]
theorem l_nx45 (h : tb w a n C) (d k : Nat) (hd4 : d ≤ 4) (hk : k < 3) (l : Bool) (hl : (k = 1 ∧ l = true) ∨ (k ≠ 1 ∧ l = false)) {zi zj : Int} (i j : Nat) (hh : zi = i ∧ zj = j) (he : eOk n l i j) (u5 : Option Value) : xr O_nextHeldSide 0 45 [some (.ref 13), some (.ref a), some (.int (iI (d : Int))), some (.int (iI (k : Int))), some (.int (iI zi)), u5] [.int (iI zj)] (0, 0) w = if k ≠ d ∧ hd C l i j = true then some (.int (iI (k : Int)), w) else xr O_nextHeldSide 0 2 [some (.ref 13), some (.ref a), some (.int (iI (d : Int))), some (.int (iI ((k + 1 : Nat) : Int))), some (.int (iI zi)), some (.int (iI zj))] [] (0, 0) w := by
  have nx : xr O_nextHeldSide 0 75 [some (.ref 13), some (.ref a), some (.int (iI (d : Int))), some (.int (iI (k : Int))), some (.int (iI zi)), some (.int (iI zj))] [] (0, 0) w = xr O_nextHeldSide 0 2 [some (.ref 13), some (.ref a), some (.int (iI (d : Int))), some (.int (iI ((k + 1 : Nat) : Int))), some (.int (iI zi)), some (.int (iI zj))] [] (0, 0) w := by
    rw [q_O_nextHeldSide_75, iI_add]; rfl
  rw [q_O_nextHeldSide_45]
  by_cases e : k = d
  · rw [if_neg (show ¬ (k ≠ d ∧ hd C l i j = true) from fun q => q.1 e)]
    exact s_eqt (by omega) nx
  · have B : ∀ z : Int32, z = bI l → xr O_nextHeldSide 0 63 [some (.ref 13), some (.ref a), some (.int (iI (d : Int))), some (.int (iI (k : Int))), some (.int (iI zi)), some (.int (iI zj))] [.int z, .ref a] (0, 0) w = if k ≠ d ∧ hd C l i j = true then some (.int (iI (k : Int)), w) else xr O_nextHeldSide 0 2 [some (.ref 13), some (.ref a), some (.int (iI (d : Int))), some (.int (iI ((k + 1 : Nat) : Int))), some (.int (iI zi)), some (.int (iI zj))] [] (0, 0) w := fun z hz => by
      rw [q_O_nextHeldSide_63]
      refine s_g (T_rv h.1) (s_I (m_holds h l hz i j hh he) ?_)
      cases q : hd C l i j with
      | true =>
        rw [if_pos (show k ≠ d ∧ true = true from ⟨e, rfl⟩)]
        exact s_bt rfl rfl
      | false =>
        rw [if_neg (show ¬ (k ≠ d ∧ false = true) from fun z => Bool.noConfusion z.2)]
        exact s_bf rfl nx
    refine s_eqf (by omega) ?_
    rcases hl with ⟨k1, rfl⟩ | ⟨k1, rfl⟩
    · exact s_eqt (by omega) (B _ rfl)
    · refine s_eqf (by omega) ?_
      rw [q_O_nextHeldSide_62]
      exact B _ rfl
theorem l_nxR (h : tb w a n C) {x : DX} (hL : xIF w 13 2 = iI (x.1 : Nat) ∧ xIF w 13 3 = iI (x.2.1 : Nat)) (hr : x.1 < n) (hc : x.2.1 < n) (d k : Nat) (hd4 : d ≤ 4) (hk : k < 3) (u4 u5 : Option Value) : ∃ v4 v5 : Option Value, xr O_nextHeldSide 0 2 [some (.ref 13), some (.ref a), some (.int (iI (d : Int))), some (.int (iI (k : Int))), u4, u5] [] (0, 0) w = if k ≠ d ∧ sH C x.1 x.2.1 k = true then some (.int (iI (k : Int)), w) else xr O_nextHeldSide 0 2 [some (.ref 13), some (.ref a), some (.int (iI (d : Int))), some (.int (iI ((k + 1 : Nat) : Int))), v4, v5] [] (0, 0) w := by
  obtain ⟨l2, l3⟩ := hL
  have hk3 : k = 0 ∨ k = 1 ∨ k = 2 := by omega
  rcases hk3 with rfl | rfl | rfl
  · refine ⟨some (.int (iI ((x.1 : Nat) : Int))), some (.int (iI ((x.2.1 : Nat) : Int))), ?_⟩
    rw [q_O_nextHeldSide_2]
    refine s_lef (by omega) (s_eqf (by omega) ?_)
    rw [q_O_nextHeldSide_21, l2]
    refine s_g rfl ?_
    rw [q_O_nextHeldSide_25]
    refine s_eqf (by omega) ?_
    rw [q_O_nextHeldSide_41, l3]
    exact s_g rfl (l_nx45 h d 0 hd4 (by omega) false (Or.inr ⟨by decide, rfl⟩) x.1 x.2.1 ⟨rfl, rfl⟩ (show x.1 ≤ n ∧ x.2.1 < n by omega) u5)
  · refine ⟨some (.int (iI ((x.1 : Nat) : Int))), some (.int (iI (((x.2.1 : Nat) : Int) + 1))), ?_⟩
    rw [q_O_nextHeldSide_2]
    refine s_lef (by omega) (s_eqf (by omega) ?_)
    rw [q_O_nextHeldSide_21, l2]
    refine s_g rfl ?_
    rw [q_O_nextHeldSide_25]
    refine s_eqt (by omega) ?_
    rw [l3, iI_add]
    exact s_g rfl (l_nx45 h d 1 hd4 (by omega) true (Or.inl ⟨rfl, rfl⟩) x.1 (x.2.1 + 1) ⟨rfl, by omega⟩ (show x.1 < n ∧ x.2.1 + 1 ≤ n by omega) u5)
  · refine ⟨some (.int (iI (((x.1 : Nat) : Int) + 1))), some (.int (iI ((x.2.1 : Nat) : Int))), ?_⟩
    rw [q_O_nextHeldSide_2]
    refine s_lef (by omega) (s_eqt (by omega) ?_)
    rw [l2, iI_add]
    refine s_g rfl ?_
    rw [q_O_nextHeldSide_25]
    refine s_eqf (by omega) ?_
    rw [q_O_nextHeldSide_41, l3]
    exact s_g rfl (l_nx45 h d 2 hd4 (by omega) false (Or.inr ⟨by decide, rfl⟩) (x.1 + 1) x.2.1 ⟨by omega, rfl⟩ (show x.1 + 1 ≤ n ∧ x.2.1 < n by omega) u5)
theorem l_next (h : tb w a n C) {x : DX} (hL : xIF w 13 2 = iI (x.1 : Nat) ∧ xIF w 13 3 = iI (x.2.1 : Nat)) (hr : x.1 < n) (hc : x.2.1 < n) {zd : Int} (d : Nat) (hd4 : zd = d ∧ d ≤ 4) : xm O_nextHeldSide 0 [.ref 13, .ref a, .int (iI zd)] w = some (.int (iI (oT C x.1 x.2.1 d : Nat)), w) := by
  obtain ⟨rfl, hd4⟩ := hd4
  rw [e_O_nextHeldSide, q_O_nextHeldSide_0]
  obtain ⟨a4, a5, e0⟩ := l_nxR h hL hr hc d 0 hd4 (by omega) none none
  obtain ⟨b4, b5, e1⟩ := l_nxR h hL hr hc d 1 hd4 (by omega) a4 a5
  obtain ⟨c4, c5, e2⟩ := l_nxR h hL hr hc d 2 hd4 (by omega) b4 b5
  unfold oT othB
  refine Eq.trans e0 ?_
  by_cases q0 : 0 ≠ d ∧ sH C x.1 x.2.1 0 = true
  · rw [if_pos (show 0 ≠ d ∧ hd C false x.1 x.2.1 = true from q0)]
    exact s_t q0 rfl
  · rw [if_neg (show ¬ (0 ≠ d ∧ hd C false x.1 x.2.1 = true) from q0)]
    refine s_f q0 (Eq.trans e1 ?_)
    by_cases q1 : 1 ≠ d ∧ sH C x.1 x.2.1 1 = true
    · rw [if_pos (show 1 ≠ d ∧ hd C true x.1 (x.2.1 + 1) = true from q1)]
      exact s_t q1 rfl
    · rw [if_neg (show ¬ (1 ≠ d ∧ hd C true x.1 (x.2.1 + 1) = true) from q1)]
      refine s_f q1 (Eq.trans e2 ?_)
      by_cases q2 : 2 ≠ d ∧ sH C x.1 x.2.1 2 = true
      · rw [if_pos (show 2 ≠ d ∧ hd C false (x.1 + 1) x.2.1 = true from q2)]
        exact s_t q2 rfl
      · rw [if_neg (show ¬ (2 ≠ d ∧ hd C false (x.1 + 1) x.2.1 = true) from q2)]
        refine s_f q2 ?_
        rw [q_O_nextHeldSide_2]
        refine s_let (by decide) ?_
        rw [q_O_nextHeldSide_81]; rfl
end XLOP3
noncomputable def fF (a : Nat) (k : Nat) (s : XW) (u : Option Value × Option Value) : Option XR := xr O_follow 0 2 [some (.ref 13), some (.ref a), some (.int (iI (k : Int))), u.1, u.2] [] (0, 0) s
section XLOP3B
variable {s : XW} {a n : Nat} {C : Nat → Nat → Int} {R : Nat} {x : DX} {u : Option Value × Option Value}
theorem f_end : fF a 100 s u = some (.int (bI false), s) := by
  unfold fF
  rw [q_O_follow_2]
  refine s_let (by decide) ?_
  rw [q_O_follow_146, xbz_0]
theorem f_seen (h : tb s a n C) (hx : vdD n C x) (hL : lsD s R x) {k : Nat} (hk : k < 100) (hz : xIA s 14 (plD x) = iI R) : fF a k s u = some (.int (bI false), s) := by
  have hn := h.2.2.1
  have h1 := hx.1
  have h2 := hx.2.1
  unfold fF
  rw [q_O_follow_2]
  refine s_lef (by omega) (s_g rfl (s_g rfl (s_g rfl ?_)))
  rw [hL.2.1, hL.2.2.1]
  refine s_I (l_isSeen h.2.1 x.1 x.2.1 ⟨rfl, rfl, by omega, by omega⟩) (s_pt ?_ ?_)
  · rw [hL.1]; exact hz
  · rw [q_O_follow_146, xbz_0]
theorem f_step (h : tb s a n C) (ha : a ≠ 13) (hx : vdD n C x) (hL : lsD s R x) {k : Nat} (hk : k < 100) (hz : ¬ xIA s 14 (plD x) = iI R) : (exD n C x = true → ∃ s', fF a k s u = some (.int (bI true), s') ∧ lsD s' R (rvD C x) ∧ xFr oS s s' ∧ mrk s s' R (fun j => j = plD x)) ∧ (exD n C x = false → ∃ s' u', fF a k s u = fF a (k + 1) s' u' ∧ lsD s' R (nxD C x) ∧ xFr oS s s' ∧ mrk s s' R (fun j => j = plD x)) := by
  have hn := h.2.2.1
  have hl := h.1.lt
  have h1 := hx.1
  have h2 := hx.2.1
  obtain ⟨o1, o2, o3, o4⟩ := oT_ok h.2.2.2.2.1 h1 h2 hx.2.2.1 hx.2.2.2
  obtain ⟨l1, l2, l3, l4⟩ := hL
  have ix : (iI (x.1 : Int) * iI 10 + iI (x.2.1 : Int)).toNatClampNeg = plD x := by
    rw [iI_mul, iI_add, iI_nat (by omega)]
    show ((x.1 : Int) * 10 + x.2.1).toNat = x.1 * 10 + x.2.1
    omega
  have f1 : xFr oS s (xpI s 14 (plD x) (iI (R : Int))) := fr_pI rfl
  have t1 : tb (xpI s 14 (plD x) (iI (R : Int))) a n C := h.fr f1 (oS_no (by have := h.1; unfold isT at this; omega)) (oS_no (by have := h.1; unfold isT at this; omega))
  have hL1 : lsD (xpI s 14 (plD x) (iI (R : Int))) R x := ⟨l1, l2, l3, l4⟩
  have f2 : xFr oS s (xpF (xpI s 14 (plD x) (iI (R : Int))) 13 4 (iI (oT C x.1 x.2.1 x.2.2 : Nat))) := f1.tr (fr_pF rfl)
  have hL2 : lsD (xpF (xpI s 14 (plD x) (iI (R : Int))) 13 4 (iI (oT C x.1 x.2.1 x.2.2 : Nat))) R (rvD C x) := by
    refine ⟨?_, ?_, ?_, ?_⟩
    · rw [f_pF, if_pos rfl, if_neg (by decide)]; exact l1
    · rw [f_pF, if_pos rfl, if_neg (by decide)]; exact l2
    · rw [f_pF, if_pos rfl, if_neg (by decide)]; exact l3
    · rw [f_pF, if_pos rfl, if_pos rfl]; rfl
  have m1 : mrk s (xpI s 14 (plD x) (iI (R : Int))) R (fun j => j = plD x) := by
    refine ⟨fun j hj => ?_, fun j hj => ?_⟩
    · rw [a_pI, if_pos rfl, if_pos hj]
    · rw [a_pI, if_pos rfl, if_neg hj]
  have sz : xIF (xpF (xpI s 14 (plD x) (iI (R : Int))) 13 4 (iI (oT C x.1 x.2.1 x.2.2 : Nat))) a 1 = iI n := by
    rw [f_pF, if_neg ha]; exact h.2.2.2.1
  have er : (rvD C x).2.2 = oT C x.1 x.2.1 x.2.2 := rfl
  have da := dn_ac _ o2 n x.1 x.2.1 h1 h2
  have xa : ∀ t, t < 4 → xsi 1 t + 2 ≤ 4 ∧ -2 ≤ xsi 1 t ∧ xsi 2 t + 2 ≤ 4 ∧ -2 ≤ xsi 2 t := by decide
  have xb := xa _ o2
  have go : ∀ o, xbI (xm B_isWithin 0 [.int (iI ((x.1 : Int) + xsi 1 (oT C x.1 x.2.1 x.2.2))), .int (iI 0), .int (iI ((n : Int) - 1))] (xpF (xpI s 14 (plD x) (iI (R : Int))) 13 4 (iI (oT C x.1 x.2.1 x.2.2 : Nat)))) (fun r_7 w_6 => if r_7 = 0 then xr O_follow 0 115 [some (.ref 13), some (.ref a), some (.int (iI (k : Int))), some (.int (iI ((x.1 : Int) + xsi 1 (oT C x.1 x.2.1 x.2.2)))), some (.int (iI ((x.2.1 : Int) + xsi 2 (oT C x.1 x.2.1 x.2.2))))] [] (0, 0) w_6 else xg true (xbI (xm B_isWithin 0 [.int (iI ((x.2.1 : Int) + xsi 2 (oT C x.1 x.2.1 x.2.2))), .int (iI 0), .int ((xIF w_6 a 1) - (iI 1))] w_6) (fun r_9 w_8 => if r_9 = 0 then xr O_follow 0 115 [some (.ref 13), some (.ref a), some (.int (iI (k : Int))), some (.int (iI ((x.1 : Int) + xsi 1 (oT C x.1 x.2.1 x.2.2)))), some (.int (iI ((x.2.1 : Int) + xsi 2 (oT C x.1 x.2.1 x.2.2))))] [] (0, 0) w_8 else xr O_follow 0 117 [some (.ref 13), some (.ref a), some (.int (iI (k : Int))), some (.int (iI ((x.1 : Int) + xsi 1 (oT C x.1 x.2.1 x.2.2)))), some (.int (iI ((x.2.1 : Int) + xsi 2 (oT C x.1 x.2.1 x.2.2))))] [] (0, 0) w_8))) = o → fF a k s u = o := fun o ho => by
    unfold fF
    rw [q_O_follow_2]
    refine s_lef (by omega) (s_g rfl (s_g rfl (s_g rfl ?_)))
    rw [l2, l3]
    refine s_I (l_isSeen h.2.1 x.1 x.2.1 ⟨rfl, rfl, by omega, by omega⟩) (s_pf ?_ ?_)
    · rw [l1]; exact hz
    · rw [l2, l3, l1, ix]
      refine s_g rfl (s_o (h.2.1.r (by decide) rfl) (s_g rfl (s_g rfl (s_g rfl (s_g ?_ (s_g rfl (s_g rfl ?_)))))))
      · rw [iI_mul, iI_add]; exact xin_t (n := 100) (by omega)
      · rw [f_pI, l4]
        refine s_I (l_next t1 (x := x) ⟨hL1.2.1, hL1.2.2.1⟩ h1 h2 x.2.2 ⟨rfl, by have := hx.2.2.1; omega⟩) ?_
        rw [hL2.2.2.2, hL2.2.1, hL2.2.2.1, sz]
        rw [show (iI ((rvD C x).2.2 : Nat)).toNatClampNeg = oT C x.1 x.2.1 x.2.2 from iI_natk _ (by omega)]
        refine s_g rfl (s_g rfl (s_g rfl (s_g (xin_t (n := 4) ?_) (s_g rfl (s_g rfl (s_g (xin_t (n := 4) ?_) (s_g (T_ok h.1) ?_)))))))
        · omega
        · omega
        · rw [iI_add, iI_add, iI_sub]
          rw [T_ok h.1]
          exact ho
  constructor
  · intro he
    have nd := da.1 he
    refine ⟨_, go _ ?_, hL2, f2, m1⟩
    by_cases q1 : 0 ≤ (x.1 : Int) + xsi 1 (oT C x.1 x.2.1 x.2.2) ∧ (x.1 : Int) + xsi 1 (oT C x.1 x.2.1 x.2.2) ≤ (n : Int) - 1
    · refine s_I (m_isWithin (by omega) (by omega) (by omega) _) (s_pt q1 (s_g rfl ?_))
      rw [sz, iI_sub]
      refine s_I (m_isWithin (by omega) (by omega) (by omega) _) (s_pf (fun q => nd ⟨q1, q⟩) ?_)
      rw [q_O_follow_115, xbz_1]
    · refine s_I (m_isWithin (by omega) (by omega) (by omega) _) (s_pf q1 ?_)
      rw [q_O_follow_115, xbz_1]
  · intro he
    obtain ⟨d1, d2, d3, d4⟩ := da.2 he
    refine ⟨xpF (xpF (xpF (xpF (xpI s 14 (plD x) (iI (R : Int))) 13 4 (iI (oT C x.1 x.2.1 x.2.2 : Nat))) 13 2 (iI ((mvD x.1 x.2.1 (oT C x.1 x.2.1 x.2.2)).1 : Nat))) 13 3 (iI ((mvD x.1 x.2.1 (oT C x.1 x.2.1 x.2.2)).2.1 : Nat))) 13 4 (iI ((mvD x.1 x.2.1 (oT C x.1 x.2.1 x.2.2)).2.2 : Nat)), (some (.int (iI ((mvD x.1 x.2.1 (oT C x.1 x.2.1 x.2.2)).1 : Nat))), some (.int (iI ((mvD x.1 x.2.1 (oT C x.1 x.2.1 x.2.2)).2.1 : Nat)))), go _ ?_, ?_, ?_, ?_⟩
    · refine s_I (m_isWithin (by omega) (by omega) (by omega) _) (s_pt d1.1 (s_g rfl ?_))
      rw [sz, iI_sub]
      refine s_I (m_isWithin (by omega) (by omega) (by omega) _) (s_pt d1.2 ?_)
      rw [q_O_follow_117, d2, d3, iI_add]
      refine s_g rfl (s_g rfl (s_g rfl (s_g rfl ?_)))
      have e4 : xIF (xpF (xpF (xpF (xpI s 14 (plD x) (iI (R : Int))) 13 4 (iI (oT C x.1 x.2.1 x.2.2 : Nat))) 13 2 (iI ((mvD x.1 x.2.1 (oT C x.1 x.2.1 x.2.2)).1 : Nat))) 13 3 (iI ((mvD x.1 x.2.1 (oT C x.1 x.2.1 x.2.2)).2.1 : Nat))) 13 4 = iI (oT C x.1 x.2.1 x.2.2 : Nat) := by
        rw [f_pF, if_pos rfl, if_neg (by decide), f_pF, if_pos rfl, if_neg (by decide), f_pF, if_pos rfl, if_pos rfl]
      rw [e4, d4]; rfl
    · refine ⟨?_, ?_, ?_, ?_⟩
      · rw [f_pF, if_pos rfl, if_neg (by decide), f_pF, if_pos rfl, if_neg (by decide), f_pF, if_pos rfl, if_neg (by decide)]; exact hL2.1
      · rw [f_pF, if_pos rfl, if_neg (by decide), f_pF, if_pos rfl, if_neg (by decide), f_pF, if_pos rfl, if_pos rfl]; rfl
      · rw [f_pF, if_pos rfl, if_neg (by decide), f_pF, if_pos rfl, if_pos rfl]; rfl
      · rw [f_pF, if_pos rfl, if_pos rfl]; rfl
    · exact ((f2.tr (fr_pF rfl)).tr (fr_pF rfl)).tr (fr_pF rfl)
    · exact m1
end XLOP3B
