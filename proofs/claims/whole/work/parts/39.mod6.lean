/-! ===== THE REFERENCE, 6 (own work): meets, comparisons, steps ===== -/
/-- what keeps the picture of tables and draft -/
def rK (w w' : XW) : Prop := xIF w' 34 3 = xIF w 34 3 ∧ xIF w' 34 4 = xIF w 34 4 ∧ xIA w' 35 = xIA w 35 ∧ xIA w' 36 = xIA w 36 ∧ xIA w' 37 = xIA w 37
theorem rK.rf (w : XW) : rK w w := ⟨rfl, rfl, rfl, rfl, rfl⟩
theorem rK.tr {w w1 w2 : XW} (h : rK w w1) (g : rK w1 w2) : rK w w2 := ⟨g.1.trans h.1, g.2.1.trans h.2.1, g.2.2.1.trans h.2.2.1, g.2.2.2.1.trans h.2.2.2.1, g.2.2.2.2.trans h.2.2.2.2⟩
theorem rK_I {w : XW} {a k : Nat} {v : Int32} (h : 37 < a) : rK w (xpI w a k v) := ⟨rfl, rfl, funext fun j => (by rw [a_pI, if_neg (by omega)]), funext fun j => (by rw [a_pI, if_neg (by omega)]), funext fun j => (by rw [a_pI, if_neg (by omega)])⟩
theorem rK_F {w : XW} {k : Nat} {v : Int32} (h : k ≠ 3 ∧ k ≠ 4) : rK w (xpF w 34 k v) := ⟨by rw [f_pF, if_pos rfl, if_neg (fun q => h.1 q.symm)], by rw [f_pF, if_pos rfl, if_neg (fun q => h.2 q.symm)], rfl, rfl, rfl⟩
theorem IM_K {w w' : XW} {A : AS} (h : IM w A) (hG : XG w') (k : rK w w') : IM w' A :=
  ⟨hG, fun p hp => ⟨(h.2.1 p hp).1, (h.2.1 p hp).2.1, by rw [k.2.2.1]; exact (h.2.1 p hp).2.2.1, by rw [k.2.2.2.1]; exact (h.2.1 p hp).2.2.2⟩, h.2.2.1, h.2.2.2.1, by rw [k.1]; exact h.2.2.2.2.1, by rw [k.2.1]; exact h.2.2.2.2.2.1, by rw [k.2.2.2.2]; exact h.2.2.2.2.2.2⟩
theorem rt_K {w w' : XW} {p n : Nat} {C : Nat → Nat → Int} (h : rt w p n C) (k : rK w w') : rt w' p n C := ⟨h.1, h.2.1, by rw [k.2.2.1]; exact h.2.2.1, by rw [k.2.2.2.1]; exact h.2.2.2⟩
theorem mx_bd (g : Bool) {n i j : Nat} {C D : Nat → Nat → Int} (h : asm n C) (h' : asm n D) (hi : i ≤ n) (hj : j ≤ n) : 0 ≤ mxC g C D i j ∧ mxC g C D i j ≤ n := by
  have := (asm_mx g h h').bd hi hj
  omega
section XMOD
variable {w : XW} {A : AS}
theorem r_fromCorners (hG : XG w) {p n : Nat} {E : Nat → Nat → Int} (hn : 1 ≤ n ∧ n ≤ 10) (hE : asm n E) (hc : ∀ r c, r ≤ n → c ≤ n → xIA w 40 (r * 11 + c) = iI (E r c)) {z zn : Int} (hz : z = p ∧ p < 8 ∧ zn = n) : ∃ w', xm M_fromCorners 0 [.ref 34, .int (iI z), .int (iI zn)] w = some (.null, w') ∧ mFr w w' ∧ rOut w w' p ∧ rt w' p n E := by
  obtain ⟨rfl, hp, rfl⟩ := hz
  have key : ∃ w', xr M_fromCorners 0 9 [some (.ref 34), some (.int (iI (p : Int))), some (.int (iI (n : Int))), some (.int (iI ((0 : Nat) : Int))), none] [] (0, 0) (xpI w 35 p (iI (n : Int))) = some (.null, w') ∧ mFr w w' ∧ rOut w w' p ∧ xIA w' 35 p = iI (n : Int) ∧ ∀ i j, i < n → j < n → xIA w' 36 ((p * 10 + i) * 10 + j) = iI (dA E i j) := by
    refine x_nest (fun (i : Nat) (s : XW) (u : Option Value) => xr M_fromCorners 0 9 [some (.ref 34), some (.int (iI (p : Int))), some (.int (iI (n : Int))), some (.int (iI i)), u] [] (0, 0) s)
      (fun (i j : Nat) (s : XW) (_ : Unit) => xr M_fromCorners 0 17 [some (.ref 34), some (.int (iI (p : Int))), some (.int (iI (n : Int))), some (.int (iI i)), some (.int (iI j))] [] (0, 0) s) n (fun _ => n)
      (fun i j s => mFr w s ∧ rOut w s p ∧ xIA s 35 p = iI (n : Int) ∧ xIA s 40 = xIA w 40 ∧ ∀ r c, (r < i ∧ c < n) ∨ (r = i ∧ c < j) → xIA s 36 ((p * 10 + r) * 10 + c) = iI (dA E r c)) (fun o => ∃ w', o = some (.null, w') ∧ mFr w w' ∧ rOut w w' p ∧ xIA w' 35 p = iI (n : Int) ∧ ∀ i j, i < n → j < n → xIA w' 36 ((p * 10 + i) * 10 + j) = iI (dA E i j))
      (fun i s u hi hq => ⟨(), ?_⟩) (fun i j s v hi hj hq => Or.inr ⟨xpI s 36 ((p * 10 + i) * 10 + j) (iI (dA E i j)), (), ?_, ?_, ?_, ?_, ?_, ?_⟩) (fun i s v hi hq => ⟨some (.int (iI n)), ?_, hq.1, hq.2.1, hq.2.2.1, hq.2.2.2.1, fun r c hr => ?_⟩) (fun s u hq => ⟨s, ?_, hq.1, hq.2.1, hq.2.2.1, fun i j hi hj => hq.2.2.2.2 i j (Or.inl ⟨hi, hj⟩)⟩) (xpI w 35 p (iI (n : Int))) none ⟨mFr_I (by decide), rOut_s, by rw [a_pI, if_pos rfl, if_pos rfl], funext fun j => (by rw [a_pI, if_neg (by decide)]), fun r c hr => by omega⟩
    · rw [q_M_fromCorners_9]
      exact s_lef (by omega) rfl
    · have hGs := hq.1.1.G hG
      have rd4 : ∀ r c : Nat, r ≤ n → c ≤ n → xIA s 40 (r * 11 + c) = iI (E r c) := fun r c hr hcn => by rw [hq.2.2.2.1]; exact hc r c hr hcn
      rw [q_M_fromCorners_17]
      simp only [iI_mul, iI_add]
      refine s_lef (by omega) (s_g rfl (s_o (hGs.r (by decide) rfl) (s_g (xin_t (n := 121) (by omega)) (s_g rfl (s_o (hGs.r (by decide) rfl) (s_g (xin_t (n := 121) (by omega)) (s_g rfl (s_o (hGs.r (by decide) rfl) (s_g (xin_t (n := 121) (by omega)) (s_g rfl (s_o (hGs.r (by decide) rfl) (s_g (xin_t (n := 121) (by omega)) (s_g rfl ?_)))))))))))))
      rw [iI_nat (by omega), iI_nat (by omega), iI_nat (by omega), iI_nat (by omega), show (11 * ((i : Int) + 1) + (j : Int) + 1).toNat = (i + 1) * 11 + (j + 1) by omega, show (11 * (i : Int) + (j : Int) + 1).toNat = i * 11 + (j + 1) by omega, show (11 * ((i : Int) + 1) + (j : Int)).toNat = (i + 1) * 11 + j by omega, show (11 * (i : Int) + (j : Int)).toNat = i * 11 + j by omega, rd4 _ _ (by omega) (by omega), rd4 _ _ (by omega) (by omega), rd4 _ _ (by omega) (by omega), rd4 _ _ (by omega) (by omega)]
      simp only [iI_sub, iI_add]
      refine s_V (r_aw hGs p i j (by omega) _) ?_
      rw [show E (i + 1) (j + 1) - E i (j + 1) - E (i + 1) j + E i j = dA E i j by unfold dA; omega]; rfl
    · exact hq.1.tr (mFr_I (by decide))
    · exact hq.2.1.tr (rOut_a (by omega) (by omega))
    · rw [a_pI, if_neg (by decide)]; exact hq.2.2.1
    · rw [← hq.2.2.2.1]; exact funext fun k => (by rw [a_pI, if_neg (by decide)])
    · intro r c hr
      rw [a_pI, if_pos rfl]
      by_cases e : r = i ∧ c = j
      · rw [if_pos (by rw [e.1, e.2]), e.1, e.2]
      · rw [if_neg (by omega)]; exact hq.2.2.2.2 r c (by omega)
    · rw [q_M_fromCorners_17]
      refine s_let (by omega) ?_
      rw [q_M_fromCorners_96, iI_add]; rfl
    · exact hq.2.2.2.2 r c (by omega)
    · rw [q_M_fromCorners_9]
      refine s_let (by omega) ?_
      rw [q_M_fromCorners_102]
  obtain ⟨w', k1, k2, k3, k4, k5⟩ := key
  refine ⟨w', ?_, k2, k3, hn, hE, k4, k5⟩
  rw [e_M_fromCorners, q_M_fromCorners_0, iI_natk p (by omega)]
  exact s_g rfl (s_o (hG.r (by decide) rfl) (s_g (xin_t (n := 8) (by omega)) k1))
theorem r_meets (h : IM w A) (g : Bool) {x : Int32} (hx : x = bI g) {z a b : Int} (hz : i32 z) (ha : i32 a) (hb : i32 b) : ∃ w', xm M_meets 0 [.ref 34, .int (iI z), .int (iI a), .int (iI b), .int x] w = some (.int (bI (o_meet A g z a b).1), w') ∧ IM w' (o_meet A g z a b).2 ∧ mFr w w' := by
  subst hx
  have h0 := IM_F (k := 0) (v := iI 0) h (by decide)
  have f0 : mFr w (xpF w 34 0 (iI 0)) := mFr_F (by decide)
  rw [e_M_meets, q_M_meets_0]
  generalize ht : xpF w 34 0 (iI 0) = t at *
  have no : ¬ ((0 ≤ z ∧ z < 8) ∧ ((0 ≤ a ∧ a < 8) ∧ (0 ≤ b ∧ b < 8) ∧ A.1 a.toNat = A.1 b.toNat)) → ∀ o, o = xr M_meets 0 41 [some (.ref 34), some (.int (iI z)), some (.int (iI a)), some (.int (iI b)), some (.int (bI g)), none, none, none, none, none] [] (0, 0) t → ∃ w', o = some (.int (bI (o_meet A g z a b).1), w') ∧ IM w' (o_meet A g z a b).2 ∧ mFr w w' := fun q o ho => by
    rw [show o_meet A g z a b = (false, A) from if_neg q]
    refine ⟨t, ?_, h0, f0⟩
    rw [ho, q_M_meets_41, xbz_0]
  by_cases h1 : 0 ≤ z ∧ z < 8
  · by_cases h2 : 0 ≤ a ∧ a < 8
    · by_cases h3 : 0 ≤ b ∧ b < 8
      · have ta := h0.2.1 a.toNat (by omega)
        have tb' := h0.2.1 b.toNat (by omega)
        obtain ⟨p1, p2, p3⟩ := r_sizes h0.1 ta (z := a) (by omega)
        obtain ⟨p4, p5, p6⟩ := r_sizes h0.1 tb' (z := b) (by omega)
        have rn := ta.1
        have rn' := tb'.1
        by_cases h4 : A.1 a.toNat = A.1 b.toNat
        · rw [← h4] at tb'
          rw [show o_meet A g z a b = (true, setT A z.toNat (A.1 a.toNat) (mxC g (A.2.1 a.toNat) (A.2.1 b.toNat))) from if_pos ⟨h1, h2, h3, h4⟩]
          generalize hN : A.1 a.toNat = n at *
          generalize hCa : A.2.1 a.toNat = C at *
          generalize hCb : A.2.1 b.toNat = D at *
          have key : ∃ w', xr M_meets 0 54 [some (.ref 34), some (.int (iI z)), some (.int (iI a)), some (.int (iI b)), some (.int (bI g)), some (.int (iI (n : Int))), some (.int (iI ((0 : Nat) : Int))), none, none, none] [] (0, 0) t = some (.int (bI true), w') ∧ IM w' (setT A z.toNat n (mxC g C D)) ∧ mFr w w' := by
            refine x_nest (fun (i : Nat) (s : XW) (u : Option Value × Option Value × Option Value) => xr M_meets 0 54 [some (.ref 34), some (.int (iI z)), some (.int (iI a)), some (.int (iI b)), some (.int (bI g)), some (.int (iI (n : Int))), some (.int (iI i)), u.1, u.2.1, u.2.2] [] (0, 0) s)
              (fun (i j : Nat) (s : XW) (u : Option Value × Option Value) => xr M_meets 0 64 [some (.ref 34), some (.int (iI z)), some (.int (iI a)), some (.int (iI b)), some (.int (bI g)), some (.int (iI (n : Int))), some (.int (iI i)), some (.int (iI j)), u.1, u.2] [] (0, 0) s) (n + 1) (fun _ => n + 1)
              (fun i j s => mFr t s ∧ rK t s ∧ ∀ r c, (r < i ∧ c < n + 1) ∨ (r = i ∧ c < j) → xIA s 40 (r * 11 + c) = iI (mxC g C D r c)) (fun o => ∃ w', o = some (.int (bI true), w') ∧ IM w' (setT A z.toNat n (mxC g C D)) ∧ mFr w w')
              (fun i s u hi hq => ⟨u.2, ?_⟩) (fun i j s v hi hj hq => Or.inr ⟨xpI s 40 (i * 11 + j) (iI (mxC g C D i j)), (some (.int (iI (C i j))), some (.int (iI (D i j)))), ?_, hq.1.tr (mFr_I (by decide)), hq.2.1.tr (rK_I (by decide)), fun r c hr => ?_⟩) (fun i s v hi hq => ⟨(some (.int (iI ((n + 1 : Nat) : Int))), v), ?_, hq.1, hq.2.1, fun r c hr => ?_⟩) (fun s u hq => ?_) t (none, none, none) ⟨mFr.rf _, rK.rf _, fun r c hr => by omega⟩
            · rw [q_M_meets_54]
              exact s_ltf (by omega) rfl
            · have hG := hq.1.1.G h0.1
              rw [q_M_meets_64]
              refine s_ltf (by omega) (s_g rfl (s_I (r_corner hG (rt_K ta hq.2.1) (by omega) i j (by omega)) (s_g rfl (s_I (r_corner hG (rt_K tb' hq.2.1) (by omega) i j (by omega)) (s_g rfl (s_o (hG.r (by decide) rfl) ?_))))))
              have mm := mx_iI g ta.2.1 tb'.2.1 rn.2 (i := i) (j := j) (by omega) (by omega)
              simp only [iI_mul, iI_add]
              have last : xr M_meets 0 127 [some (.ref 34), some (.int (iI z)), some (.int (iI a)), some (.int (iI b)), some (.int (bI g)), some (.int (iI (n : Int))), some (.int (iI i)), some (.int (iI j)), some (.int (iI (C i j))), some (.int (iI (D i j)))] [.int (iI (mxC g C D i j)), .int (iI (11 * (i : Int) + j)), .ref 40] (0, 0) s = xr M_meets 0 64 [some (.ref 34), some (.int (iI z)), some (.int (iI a)), some (.int (iI b)), some (.int (bI g)), some (.int (iI (n : Int))), some (.int (iI i)), some (.int (iI ((j + 1 : Nat) : Int))), some (.int (iI (C i j))), some (.int (iI (D i j)))] [] (0, 0) (xpI s 40 (i * 11 + j) (iI (mxC g C D i j))) := by
                rw [q_M_meets_127, iI_nat (by omega), show (11 * (i : Int) + (j : Int)).toNat = i * 11 + j by omega, iI_add]
                exact s_g (xin_t (n := 121) (by omega)) rfl
              cases g with
              | true =>
                refine s_bt rfl (s_I (m_max _ _ s) ?_)
                rw [show (if iI (C i j) < iI (D i j) then iI (D i j) else iI (C i j)) = iI (mxC true C D i j) from mm]
                exact last
              | false =>
                refine s_bf rfl ?_
                rw [q_M_meets_120]
                refine s_I (m_min _ _ s) ?_
                rw [show (if iI (D i j) < iI (C i j) then iI (D i j) else iI (C i j)) = iI (mxC false C D i j) from mm]
                exact last
            · rw [a_pI, if_pos rfl]
              by_cases e : r = i ∧ c = j
              · rw [if_pos (by rw [e.1, e.2]), e.1, e.2]
              · rw [if_neg (by omega)]; exact hq.2.2 r c (by omega)
            · rw [q_M_meets_64]
              refine s_ltt (by omega) ?_
              rw [q_M_meets_134, iI_add]; rfl
            · exact hq.2.2 r c (by omega)
            · have hG := hq.1.1.G h0.1
              obtain ⟨w', k1, k2, k3, k4⟩ := r_fromCorners hG (p := z.toNat) (n := n) (E := mxC g C D) rn (asm_mx g ta.2.1 tb'.2.1) (fun r c hr hc => hq.2.2 r c (Or.inl ⟨by omega, by omega⟩)) (z := z) (zn := (n : Int)) (by omega)
              refine ⟨w', ?_, ?_, (f0.tr hq.1).tr k2⟩
              · rw [q_M_meets_54]
                refine s_ltt (by omega) ?_
                rw [q_M_meets_140]
                refine s_g rfl (s_V k1 ?_)
                rw [xbz_1]
              · exact IM_setT (IM_K h0 hG hq.2.1) (by omega) (k2.1.G hG) k4 k3.1 k3.2.1 k3.2.2.1 k3.2.2.2.1 k3.2.2.2.2
          obtain ⟨w', k1, k2, k3⟩ := key
          refine ⟨w', s_g rfl (s_I (r_isPlace hz) (s_pt h1 (s_I (r_isPlace ha) (s_pt h2 (s_I (r_isPlace hb) (s_pt h3 (s_g rfl (s_o p1 (s_g p2 (s_g rfl (s_o p4 (s_g p5 ?_)))))))))))), k2, k3⟩
          rw [p3, p6]
          refine s_eqt (by omega) ?_
          rw [q_M_meets_43]
          refine s_g rfl (s_o p1 (s_g p2 ?_))
          rw [p3]; exact k1
        · refine no (fun q => h4 q.2.2.2) _ (s_g rfl (s_I (r_isPlace hz) (s_pt h1 (s_I (r_isPlace ha) (s_pt h2 (s_I (r_isPlace hb) (s_pt h3 (s_g rfl (s_o p1 (s_g p2 (s_g rfl (s_o p4 (s_g p5 ?_)))))))))))))
          rw [p3, p6]
          exact s_eqf (by omega) rfl
      · exact no (fun q => h3 q.2.2.1) _ (s_g rfl (s_I (r_isPlace hz) (s_pt h1 (s_I (r_isPlace ha) (s_pt h2 (s_I (r_isPlace hb) (s_pf h3 rfl)))))))
    · exact no (fun q => h2 q.2.1) _ (s_g rfl (s_I (r_isPlace hz) (s_pt h1 (s_I (r_isPlace ha) (s_pf h2 rfl)))))
  · exact no (fun q => h1 q.1) _ (s_g rfl (s_I (r_isPlace hz) (s_pf h1 rfl)))
theorem r_both (h : IM w A) {z a b : Int} (hz : i32 z) (ha : i32 a) (hb : i32 b) : ∃ w', xm M_both 0 [.ref 34, .int (iI z), .int (iI a), .int (iI b)] w = some (.int (bI (o_meet A true z a b).1), w') ∧ IM w' (o_meet A true z a b).2 ∧ mFr w w' := by
  obtain ⟨w', k1, k2, k3⟩ := r_meets h true (x := iI 1) rfl hz ha hb
  refine ⟨w', ?_, k2, k3⟩
  rw [e_M_both, q_M_both_0]
  exact s_g rfl (s_I k1 (xbz_b _ _))
theorem r_either (h : IM w A) {z a b : Int} (hz : i32 z) (ha : i32 a) (hb : i32 b) : ∃ w', xm M_either 0 [.ref 34, .int (iI z), .int (iI a), .int (iI b)] w = some (.int (bI (o_meet A false z a b).1), w') ∧ IM w' (o_meet A false z a b).2 ∧ mFr w w' := by
  obtain ⟨w', k1, k2, k3⟩ := r_meets h false (x := iI 0) rfl hz ha hb
  refine ⟨w', ?_, k2, k3⟩
  rw [e_M_either, q_M_either_0]
  exact s_g rfl (s_I k1 (xbz_b _ _))
theorem r_below (h : IM w A) {a b : Int} (ha : i32 a) (hb : i32 b) : ∃ w', xm M_below_ 0 [.ref 34, .int (iI a), .int (iI b)] w = some (.int (bI (o_below A a b)), w') ∧ IM w' A ∧ mFr w w' := by
  have h0 := IM_F (k := 0) (v := iI 0) h (by decide)
  refine ⟨_, ?_, h0, mFr_F (by decide)⟩
  rw [e_M_below_, q_M_below__0]
  generalize ht : xpF w 34 0 (iI 0) = t at *
  have no : ¬ ((0 ≤ a ∧ a < 8) ∧ (0 ≤ b ∧ b < 8) ∧ A.1 a.toNat = A.1 b.toNat) → xr M_below_ 0 34 [some (.ref 34), some (.int (iI a)), some (.int (iI b)), none, none, none] [] (0, 0) t = some (.int (bI (o_below A a b)), t) := fun q => by
    unfold o_below
    rw [q_M_below__34, xbz_0, decide_eq_false q]; rfl
  refine s_g rfl (s_I (r_isPlace ha) ?_)
  by_cases h2 : 0 ≤ a ∧ a < 8
  · refine s_pt h2 (s_I (r_isPlace hb) ?_)
    by_cases h3 : 0 ≤ b ∧ b < 8
    · have ta := h0.2.1 a.toNat (by omega)
      have tb' := h0.2.1 b.toNat (by omega)
      obtain ⟨p1, p2, p3⟩ := r_sizes h0.1 ta (z := a) (by omega)
      obtain ⟨p4, p5, p6⟩ := r_sizes h0.1 tb' (z := b) (by omega)
      have rn := ta.1
      have rn' := tb'.1
      refine s_pt h3 (s_g rfl (s_o p1 (s_g p2 (s_g rfl (s_o p4 (s_g p5 ?_))))))
      rw [p3, p6]
      by_cases h4 : A.1 a.toNat = A.1 b.toNat
      · refine s_eqt (by omega) ?_
        rw [← h4] at tb'
        rw [q_M_below__36]
        unfold o_below
        rw [decide_eq_true ⟨h2, h3, h4⟩, Bool.true_and]
        generalize A.1 a.toNat = n at *
        generalize A.2.1 a.toNat = C at *
        generalize A.2.1 b.toNat = D at *
        refine x_nest (fun (i : Nat) (q : Bool) (u : Option Value) => xr M_below_ 0 41 [some (.ref 34), some (.int (iI a)), some (.int (iI b)), some (.int (bI q)), some (.int (iI i)), u] [] (0, 0) t)
          (fun (i j : Nat) (q : Bool) (_ : Unit) => xr M_below_ 0 55 [some (.ref 34), some (.int (iI a)), some (.int (iI b)), some (.int (bI q)), some (.int (iI i)), some (.int (iI j))] [] (0, 0) t) (n + 1) (fun _ => n + 1)
          (fun i j q => q = true ↔ ((∀ r, r < i → ∀ c, c < n + 1 → D r c ≤ C r c) ∧ ∀ c, c < j → D i c ≤ C i c)) (fun o => o = some (.int (bI (belowC n C D)), t))
          (fun i q u hi hp => ⟨(), ?_⟩) (fun i j q v hi hj hp => Or.inr ⟨q && decide (D i j ≤ C i j), (), ?_, ?_⟩) (fun i q v hi hp => ⟨some (.int (iI ((n + 1 : Nat) : Int))), ?_, ?_⟩) (fun q u hp => ?_) true none ⟨fun _ => ⟨fun r hr => absurd hr (Nat.not_lt_zero _), fun c hc => absurd hc (Nat.not_lt_zero _)⟩, fun _ => rfl⟩
        · rw [q_M_below__41]
          refine s_g rfl (s_o p1 (s_g p2 ?_))
          rw [p3]
          exact s_ltf (by omega) rfl
        · have b1 := ta.2.1.bd (i := i) (j := j) (by omega) (by omega)
          have b2 := tb'.2.1.bd (i := i) (j := j) (by omega) (by omega)
          rw [q_M_below__55]
          refine s_g rfl (s_o p1 (s_g p2 ?_))
          rw [p3]
          refine s_ltf (by omega) ?_
          cases q with
          | true =>
            refine s_bt rfl (s_g rfl (s_I (r_corner h0.1 ta (by omega) i j (by omega)) (s_g rfl (s_I (r_corner h0.1 tb' (by omega) i j (by omega)) ?_))))
            by_cases hd : D i j ≤ C i j
            · refine s_ltf (by omega) ?_
              rw [q_M_below__96, iI_add, decide_eq_true hd]; rfl
            · refine s_ltt (by omega) ?_
              rw [q_M_below__95, q_M_below__96, iI_add, decide_eq_false hd]; rfl
          | false =>
            refine s_bf rfl ?_
            rw [q_M_below__95, q_M_below__96, iI_add]; rfl
        · rw [Bool.and_eq_true, hp, decide_eq_true_eq]
          constructor
          · intro ⟨⟨a1, a2⟩, a3⟩
            refine ⟨a1, fun c hc => ?_⟩
            by_cases e : c = j
            · rw [e]; exact a3
            · exact a2 c (by omega)
          · intro ⟨a1, a2⟩
            exact ⟨⟨a1, fun c hc => a2 c (by omega)⟩, a2 j (by omega)⟩
        · rw [q_M_below__55]
          refine s_g rfl (s_o p1 (s_g p2 ?_))
          rw [p3]
          refine s_ltt (by omega) ?_
          rw [q_M_below__103, iI_add]; rfl
        · rw [hp]
          constructor
          · intro ⟨a1, a2⟩
            refine ⟨fun r hr c hc => ?_, fun c hc => absurd hc (Nat.not_lt_zero _)⟩
            by_cases e : r = i
            · rw [e]; exact a2 c hc
            · exact a1 r (by omega) c hc
          · intro ⟨a1, _⟩
            exact ⟨fun r hr => a1 r (by omega), fun c hc => a1 i (by omega) c hc⟩
        · rw [q_M_below__41]
          refine s_g rfl (s_o p1 (s_g p2 ?_))
          rw [p3]
          refine s_ltt (by omega) ?_
          rw [q_M_below__109, xbz_b]
          have : q = belowC n C D := by
            rw [Bool.eq_iff_iff, hp]
            unfold belowC
            rw [decide_eq_true_eq]
            exact ⟨fun q => q.1, fun q => ⟨q, fun c hc => absurd hc (Nat.not_lt_zero _)⟩⟩
          rw [this]
      · exact s_eqf (by omega) (no (fun q => h4 q.2.2))
    · exact s_pf h3 (no (fun q => h3 q.2.1))
  · exact s_pf h2 (no (fun q => h2 q.1))
theorem r_apart (h : IM w A) {a b : Int} (ha : i32 a) (hb : i32 b) : ∃ w', xm M_apart 0 [.ref 34, .int (iI a), .int (iI b)] w = some (.int (iI (o_apart A a b)), w') ∧ IM w' A ∧ mFr w w' := by
  have h0 := IM_F (k := 0) (v := iI 0) h (by decide)
  refine ⟨_, ?_, h0, mFr_F (by decide)⟩
  rw [e_M_apart, q_M_apart_0]
  generalize ht : xpF w 34 0 (iI 0) = t at *
  have no : ¬ ((0 ≤ a ∧ a < 8) ∧ (0 ≤ b ∧ b < 8) ∧ A.1 a.toNat = A.1 b.toNat) → xr M_apart 0 34 [some (.ref 34), some (.int (iI a)), some (.int (iI b)), none, none, none] [] (0, 0) t = some (.int (iI (o_apart A a b)), t) := fun q => by
    unfold o_apart
    rw [q_M_apart_34, if_neg q]
  refine s_g rfl (s_I (r_isPlace ha) ?_)
  by_cases h2 : 0 ≤ a ∧ a < 8
  · refine s_pt h2 (s_I (r_isPlace hb) ?_)
    by_cases h3 : 0 ≤ b ∧ b < 8
    · have ta := h0.2.1 a.toNat (by omega)
      have tb' := h0.2.1 b.toNat (by omega)
      obtain ⟨p1, p2, p3⟩ := r_sizes h0.1 ta (z := a) (by omega)
      obtain ⟨p4, p5, p6⟩ := r_sizes h0.1 tb' (z := b) (by omega)
      have rn := ta.1
      have rn' := tb'.1
      refine s_pt h3 (s_g rfl (s_o p1 (s_g p2 (s_g rfl (s_o p4 (s_g p5 ?_))))))
      rw [p3, p6]
      by_cases h4 : A.1 a.toNat = A.1 b.toNat
      · refine s_eqt (by omega) ?_
        rw [← h4] at tb'
        rw [q_M_apart_36]
        unfold o_apart
        rw [if_pos ⟨h2, h3, h4⟩]
        generalize A.1 a.toNat = n at *
        generalize A.2.1 a.toNat = C at *
        generalize A.2.1 b.toNat = D at *
        refine x_nest (fun (i : Nat) (s : Int) (u : Option Value) => xr M_apart 0 41 [some (.ref 34), some (.int (iI a)), some (.int (iI b)), some (.int (iI s)), some (.int (iI i)), u] [] (0, 0) t)
          (fun (i j : Nat) (s : Int) (_ : Unit) => xr M_apart 0 55 [some (.ref 34), some (.int (iI a)), some (.int (iI b)), some (.int (iI s)), some (.int (iI i)), some (.int (iI j))] [] (0, 0) t) (n + 1) (fun _ => n + 1)
          (fun i j s => s = sumF (fun i => sumF (fun j => absI (C i j - D i j)) (n + 1)) i + sumF (fun j => absI (C i j - D i j)) j) (fun o => o = some (.int (iI (apartC n C D)), t))
          (fun i s u hi hp => ⟨(), ?_⟩) (fun i j s v hi hj hp => Or.inr ⟨s + absI (C i j - D i j), (), ?_, ?_⟩) (fun i s v hi hp => ⟨some (.int (iI ((n + 1 : Nat) : Int))), ?_, ?_⟩) (fun s u hp => ?_) 0 none rfl
        · rw [q_M_apart_41]
          refine s_g rfl (s_o p1 (s_g p2 ?_))
          rw [p3]
          exact s_ltf (by omega) rfl
        · have b1 := ta.2.1.bd (i := i) (j := j) (by omega) (by omega)
          have b2 := tb'.2.1.bd (i := i) (j := j) (by omega) (by omega)
          rw [q_M_apart_55]
          refine s_g rfl (s_o p1 (s_g p2 ?_))
          rw [p3]
          refine s_ltf (by omega) (s_g rfl (s_I (r_corner h0.1 ta (by omega) i j (by omega)) (s_g rfl (s_I (r_corner h0.1 tb' (by omega) i j (by omega)) ?_))))
          rw [iI_sub]
          refine s_I (m_abs (by omega) t) ?_
          rw [iI_add, iI_add]; rfl
        · rw [hp, Int.add_assoc]; rfl
        · rw [q_M_apart_55]
          refine s_g rfl (s_o p1 (s_g p2 ?_))
          rw [p3]
          refine s_ltt (by omega) ?_
          rw [q_M_apart_97, iI_add]; rfl
        · rw [hp]; exact (Int.add_zero _).symm
        · rw [q_M_apart_41]
          refine s_g rfl (s_o p1 (s_g p2 ?_))
          rw [p3]
          refine s_ltt (by omega) ?_
          rw [q_M_apart_103, hp, show sumF (fun j => absI (C (n + 1) j - D (n + 1) j)) 0 = 0 from rfl, Int.add_zero]; rfl
      · exact s_eqf (by omega) (no (fun q => h4 q.2.2))
    · exact s_pf h3 (no (fun q => h3 q.2.1))
  · exact s_pf h2 (no (fun q => h2 q.1))
end XMOD
