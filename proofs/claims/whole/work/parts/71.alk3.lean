/-! ===== ALIKE, 3 (own work): alike of the reference ===== -/
theorem setT_setT (A : AS) (p n m : Nat) (C D : Nat → Nat → Int) : setT (setT A p n C) p m D = setT A p m D := by
  unfold setT
  refine Prod.ext (funext fun q => ?_) (Prod.ext (funext fun q => ?_) rfl)
  · show (if q = p then m else if q = p then n else A.1 q) = if q = p then m else A.1 q
    by_cases e : q = p
    · rw [if_pos e, if_pos e]
    · rw [if_neg e, if_neg e, if_neg e]
  · show (if q = p then D else if q = p then C else A.2.1 q) = if q = p then D else A.2.1 q
    by_cases e : q = p
    · rw [if_pos e, if_pos e]
    · rw [if_neg e, if_neg e, if_neg e]
theorem setT_self (A : AS) (p : Nat) : setT A p (A.1 p) (A.2.1 p) = A := by
  unfold setT
  refine Prod.ext (funext fun q => ?_) (Prod.ext (funext fun q => ?_) rfl)
  · show (if q = p then A.1 p else A.1 q) = A.1 q
    by_cases e : q = p
    · rw [if_pos e, e]
    · rw [if_neg e]
  · show (if q = p then A.2.1 p else A.2.1 q) = A.2.1 q
    by_cases e : q = p
    · rw [if_pos e, e]
    · rw [if_neg e]
theorem setT_at (A : AS) (p n : Nat) (C : Nat → Nat → Int) : (setT A p n C).1 p = n ∧ (setT A p n C).2.1 p = C := ⟨if_pos rfl, if_pos rfl⟩
theorem idx_n {n r c : Nat} (hr : r < n) (hc : c < n) : n * r + c < n * n := by
  have : n * r + n ≤ n * n := by rw [← Nat.mul_succ]; exact Nat.mul_le_mul_left n hr
  omega
theorem idx_inj {n r c r' c' : Nat} (hc : c < n) (hc' : c' < n) (he : n * r + c = n * r' + c') : r = r' ∧ c = c' := by
  have : r = r' := by
    have e1 : (n * r + c) / n = r := by rw [Nat.mul_add_div (by omega), Nat.div_eq_of_lt hc, Nat.add_zero]
    have e2 : (n * r' + c') / n = r' := by rw [Nat.mul_add_div (by omega), Nat.div_eq_of_lt hc', Nat.add_zero]
    rw [← e1, ← e2, he]
  subst this
  exact ⟨rfl, by omega⟩
theorem sq_5 : ∀ n, n < 6 → n * n ≤ 25 := by decide
/-- what the walk over all tables keeps -/
def aI (w s : XW) (A : AS) (n L1 L2 : Nat) : Prop := IM s A ∧ wI s ∧ xFr mT w s ∧ s.2.1 L1 = 2 * n ∧ s.2.1 L2 = n * n
section XALK3
variable {w : XW} {A : AS} {p n L1 L2 : Nat} {C : Nat → Nat → Int}
theorem k_restore (b : XB) (hp : p < 8) (h5 : 1 ≤ n ∧ n ≤ 5) (hN : A.1 p = n ∧ A.2.1 p = C) (hA : asm n C) (hL : 43 ≤ L1 ∧ 43 ≤ L2) {s : XW} {D : Nat → Nat → Int} (hs : aI w s (setT A p n D) n L1 L2) (h2 : ∀ r c, r < n → c < n → xIA s L2 (n * r + c) = iI (dA C r c)) (i5 : Int32) (l6 : Int64) (u : O3) : ∃ w', xr M_alike 0 219 [some (.ref 34), some (.int (iI (p : Int))), some (.int (iI (n : Int))), some (.ref L1), some (.ref L2), some (.int i5), some (.long l6), some (.retAddr 7), some (.int (iI ((0 : Nat) : Int))), u.1, u.2.1, u.2.2] [] b s = some (.int i5, w') ∧ IM w' A ∧ wI w' ∧ xFr mT w w' := by
  obtain ⟨q1, q2, q3, q4, q5⟩ := hs
  refine x_nest (fun (i : Nat) (q : XW) (u : O3) => xr M_alike 0 219 [some (.ref 34), some (.int (iI (p : Int))), some (.int (iI (n : Int))), some (.ref L1), some (.ref L2), some (.int i5), some (.long l6), some (.retAddr 7), some (.int (iI (i : Int))), u.1, u.2.1, u.2.2] [] b q)
    (fun (i j : Nat) (q : XW) (v : Option Value × Option Value) => xr M_alike 0 228 [some (.ref 34), some (.int (iI (p : Int))), some (.int (iI (n : Int))), some (.ref L1), some (.ref L2), some (.int i5), some (.long l6), some (.retAddr 7), some (.int (iI (i : Int))), some (.int (iI (j : Int))), v.1, v.2] [] b q)
    n (fun _ => n) (fun i j q => mFr s q ∧ rOut s q p ∧ xIA q 35 p = iI (n : Int) ∧ xIA q L2 = xIA s L2 ∧ q.2.1 L2 = n * n ∧ ∀ r c, (r < i ∧ c < n) ∨ (r = i ∧ c < j) → xIA q 36 ((p * 10 + r) * 10 + c) = iI (dA C r c)) (fun o => ∃ w', o = some (.int i5, w') ∧ IM w' A ∧ wI w' ∧ xFr mT w w')
    (fun i q u hi hq => ⟨(u.2.1, u.2.2), ?_⟩) (fun i j q v hi hj hq => Or.inr ⟨xpI q 36 ((p * 10 + i) * 10 + j) (iI (dA C i j)), v, ?_, hq.1.tr (mFr_I (by decide)), hq.2.1.tr (rOut_a (by omega) (by omega)), ?_, ?_, hq.2.2.2.2.1, ?_⟩) (fun i q v hi hq => ⟨(some (.int (iI (n : Int))), v.1, v.2), ?_, hq.1, hq.2.1, hq.2.2.1, hq.2.2.2.1, hq.2.2.2.2.1, fun r c hr => ?_⟩) (fun q u hq => ⟨q, ?_, ?_, wI_m q2 hq.1, q3.tr hq.1.1⟩) s u ⟨mFr.rf _, rOut.rf _ _, ?_, rfl, q5, fun r c hr => by omega⟩
  · show xr M_alike 0 219 _ [] b q = _
    rw [q_M_alike_219]
    exact s_lef (by omega) rfl
  · have hGq := hq.1.1.G q1.1
    have ii := idx_n hi hj
    have n2 := sq_5 n (by omega)
    show xr M_alike 0 228 _ [] b q = _
    rw [q_M_alike_228, iI_mul, iI_add, show (n : Int) * i + j = ((n * i + j : Nat) : Int) by rw [Int.natCast_add, Int.natCast_mul], iI_natk _ (by omega), hq.2.2.2.1, h2 i j hi hj]
    refine s_lef (by omega) (s_g (xoa_late hL.2 hq.2.2.2.2.1 (xin_t (by omega))) (s_g rfl (s_V (r_aw hGq p i j (by omega) _) ?_)))
    rw [iI_add]; rfl
  · rw [a_pI, if_neg (by decide)]; exact hq.2.2.1
  · rw [← hq.2.2.2.1]; exact funext fun k => (by rw [a_pI, if_neg (by omega)])
  · intro r c hr
    rw [a_pI, if_pos rfl]
    by_cases e : r = i ∧ c = j
    · rw [if_pos (by rw [e.1, e.2]), e.1, e.2]
    · rw [if_neg (by omega)]; exact hq.2.2.2.2.2 r c (by omega)
  · show xr M_alike 0 228 _ [] b q = _
    rw [q_M_alike_228]
    refine s_let (by omega) ?_
    rw [q_M_alike_259, iI_add]; rfl
  · exact hq.2.2.2.2.2 r c (by omega)
  · show xr M_alike 0 219 _ [] b q = _
    rw [q_M_alike_219]
    refine s_let (by omega) ?_
    rw [q_M_alike_265]
  · have im := IM_setT (n := n) (C := C) q1 hp (hq.1.1.G q1.1) ⟨by omega, hA, hq.2.2.1, fun i j hi hj => hq.2.2.2.2.2 i j (Or.inl ⟨hi, hj⟩)⟩ hq.2.1.1 hq.2.1.2.1 hq.2.1.2.2.1 hq.2.1.2.2.2.1 hq.2.1.2.2.2.2
    rw [setT_setT, ← hN.1, ← hN.2, setT_self] at im
    exact im
  · have := (q1.2.1 p hp).2.2.1
    rw [(setT_at A p n D).1] at this; exact this
/-- the joined ends of one table, held against those kept -/
theorem k_same (b : XB) (hp : p < 8) (h5 : 1 ≤ n ∧ n ≤ 5) (hA : asm n C) (hL : 43 ≤ L1 ∧ 43 ≤ L2) {s : XW} {D : Nat → Nat → Int} (hs : aI w s (setT A p n D) n L1 L2) (h1 : ∀ e, e < 2 * n → xIA s L1 e = iI (lkD n C e : Nat)) (m : Nat) (l6 l8 : Int64) : ∃ s' u10 u11, xr M_alike 0 152 [some (.ref 34), some (.int (iI (p : Int))), some (.int (iI (n : Int))), some (.ref L1), some (.ref L2), some (.int (iI (m : Int))), some (.long l6), some (.retAddr 7), some (.long l8), some (.retAddr 7), some (.int (iI 1)), some (.int (iI ((0 : Nat) : Int)))] [] b s = xr M_alike 0 130 [some (.ref 34), some (.int (iI (p : Int))), some (.int (iI (n : Int))), some (.ref L1), some (.ref L2), some (.int (iI ((m + (if (∀ e, e < 2 * n → lkD n D e = lkD n C e) then 1 else 0) : Nat) : Int))), some (.long l6), some (.retAddr 7), some (.long (l8 + lI 1)), some (.retAddr 7), u10, u11] [] b s' ∧ aI w s' (setT A p n D) n L1 L2 ∧ lK s s' := by
  obtain ⟨q1, q2, q3, q4, q5⟩ := hs
  have rtp : rt s p n D := by
    have := q1.2.1 p hp
    rw [(setT_at A p n D).1, (setT_at A p n D).2] at this; exact this
  refine x_loop (fun (e : Nat) (t : XW) (_ : Unit) => xr M_alike 0 152 [some (.ref 34), some (.int (iI (p : Int))), some (.int (iI (n : Int))), some (.ref L1), some (.ref L2), some (.int (iI (m : Int))), some (.long l6), some (.retAddr 7), some (.long l8), some (.retAddr 7), some (.int (iI 1)), some (.int (iI (e : Int)))] [] b t) (2 * n)
    (fun e t => mFr s t ∧ kK s t ∧ ∀ e', e' < e → lkD n D e' = lkD n C e') (fun o => ∃ s' u10 u11, o = xr M_alike 0 130 [some (.ref 34), some (.int (iI (p : Int))), some (.int (iI (n : Int))), some (.ref L1), some (.ref L2), some (.int (iI ((m + (if (∀ e, e < 2 * n → lkD n D e = lkD n C e) then 1 else 0) : Nat) : Int))), some (.long l6), some (.retAddr 7), some (.long (l8 + lI 1)), some (.retAddr 7), u10, u11] [] b s' ∧ aI w s' (setT A p n D) n L1 L2 ∧ lK s s') (fun e t u he hq => ?_) (fun t u hq => ⟨t, some (.int (iI 1)), some (.int (iI ((2 * n : Nat) : Int))), ?_, ?_, hq.2.1.2⟩) s () ⟨mFr.rf _, kK.rf _, fun _ h => by omega⟩
  · obtain ⟨p1, p2, p3⟩ := hq
    obtain ⟨t1, a1, a2, a3⟩ := r_joined (p1.1.G q1.1) (rt_kK rtp p2) hp he (z := (p : Int)) (ze := (e : Int)) ⟨rfl, rfl⟩
    have k1 := p2.tr a3
    have f1 := p1.tr a2
    have d6 := (ex_ok hA (by omega) he).2.2.2.2.1
    have xo1 : xoa t1 L1 1 (iI (e : Int)) = true := xoa_late (N := 2 * n) hL.1 (by rw [k1.2.2.1]; exact q4) (xin_t (by omega))
    have v1 : xIA t1 L1 (iI (e : Int)).toNatClampNeg = iI (lkD n C e : Nat) := by rw [iI_natk e (by omega), k1.2.2.2 L1 hL.1]; exact h1 e he
    have pre : ∀ o, (if iI (lkD n D e : Nat) = iI (lkD n C e : Nat) then xr M_alike 0 184 [some (.ref 34), some (.int (iI (p : Int))), some (.int (iI (n : Int))), some (.ref L1), some (.ref L2), some (.int (iI (m : Int))), some (.long l6), some (.retAddr 7), some (.long l8), some (.retAddr 7), some (.int (iI 1)), some (.int (iI (e : Int)))] [.int (iI 1)] b t1 else xr M_alike 0 183 [some (.ref 34), some (.int (iI (p : Int))), some (.int (iI (n : Int))), some (.ref L1), some (.ref L2), some (.int (iI (m : Int))), some (.long l6), some (.retAddr 7), some (.long l8), some (.retAddr 7), some (.int (iI 1)), some (.int (iI (e : Int)))] [] b t1) = o → xr M_alike 0 152 [some (.ref 34), some (.int (iI (p : Int))), some (.int (iI (n : Int))), some (.ref L1), some (.ref L2), some (.int (iI (m : Int))), some (.long l6), some (.retAddr 7), some (.long l8), some (.retAddr 7), some (.int (iI 1)), some (.int (iI (e : Int)))] [] b t = o := fun o ho => by
      rw [q_M_alike_152, iI_mul]
      refine s_lef (by omega) (s_f (by decide) (s_g rfl (s_I a1 (s_g xo1 ?_))))
      rw [v1]; exact ho
    have d5 := (ex_ok rtp.2.1 (by omega) he).2.2.2.2.1
    by_cases q : lkD n D e = lkD n C e
    · refine Or.inr ⟨t1, (), ?_, f1, k1, fun e' he' => ?_⟩
      · refine pre _ (s_t (by rw [q]) ?_)
        rw [q_M_alike_184, iI_add]; rfl
      · by_cases y : e' = e
        · rw [y]; exact q
        · exact p3 e' (by omega)
    · have nall : ¬ ∀ e, e < 2 * n → lkD n D e = lkD n C e := fun z => q (z e he)
      refine Or.inl ⟨t1, some (.int (iI 0)), some (.int (iI ((e : Int) + 1))), ?_, ⟨IM_kK q1 (f1.1.G q1.1) k1, wI_m q2 f1, q3.tr f1.1, by rw [k1.2.2.1]; exact q4, by rw [k1.2.2.1]; exact q5⟩, k1.2⟩
      rw [if_neg nall]
      refine pre _ (s_f (fun z => ?_) ?_)
      · have := (iI_eq (a := (lkD n D e : Int)) (b := (lkD n C e : Int)) (by omega) (by omega)).mp z
        omega
      · rw [q_M_alike_183, q_M_alike_184, iI_add, q_M_alike_152]
        have go : xr M_alike 0 192 [some (.ref 34), some (.int (iI (p : Int))), some (.int (iI (n : Int))), some (.ref L1), some (.ref L2), some (.int (iI (m : Int))), some (.long l6), some (.retAddr 7), some (.long l8), some (.retAddr 7), some (.int (iI 0)), some (.int (iI ((e : Int) + 1)))] [] b t1 = xr M_alike 0 130 [some (.ref 34), some (.int (iI (p : Int))), some (.int (iI (n : Int))), some (.ref L1), some (.ref L2), some (.int (iI ((m + 0 : Nat) : Int))), some (.long l6), some (.retAddr 7), some (.long (l8 + lI 1)), some (.retAddr 7), some (.int (iI 0)), some (.int (iI ((e : Int) + 1)))] [] b t1 := by
          rw [q_M_alike_192]
          refine s_t rfl ?_
          rw [q_M_alike_203, q_M_alike_204, iI_add]; rfl
        by_cases y : 2 * (n : Int) ≤ (e : Int) + 1
        · rw [iI_mul]; exact s_let (by omega) go
        · rw [iI_mul]; exact s_lef (by omega) (s_t rfl go)
  · have all : ∀ e, e < 2 * n → lkD n D e = lkD n C e := fun e he => hq.2.2 e he
    rw [if_pos all]
    show xr M_alike 0 152 _ [] b t = _
    rw [q_M_alike_152, iI_mul]
    refine s_let (by omega) ?_
    rw [q_M_alike_192]
    refine s_f (by decide) ?_
    rw [q_M_alike_204, iI_add]; rfl
  · exact ⟨IM_kK q1 (hq.1.1.G q1.1) hq.2.1, wI_m q2 hq.1, q3.tr hq.1.1, by rw [hq.2.1.2.2.1]; exact q4, by rw [hq.2.1.2.2.1]; exact q5⟩
end XALK3
