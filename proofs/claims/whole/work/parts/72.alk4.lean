/-! ===== ALIKE, 4 (own work): alike of the reference, all of it ===== -/
def cntA (n : Nat) (C : Nat → Nat → Int) (k : Nat) : Nat := sumN (fun N => if (∀ e, e < 2 * n → lkD n (buC n N) e = lkD n C e) then 1 else 0) k
section XALK4
variable {w : XW} {A : AS} {p n L1 L2 : Nat} {C : Nat → Nat → Int}
theorem k_loop (b : XB) (hp : p < 8) (h5 : 1 ≤ n ∧ n ≤ 5) (hN : A.1 p = n ∧ A.2.1 p = C) (hA : asm n C) (hL : 43 ≤ L1 ∧ 43 ≤ L2) {s : XW} {D : Nat → Nat → Int} (hs : aI w s (setT A p n D) n L1 L2) (h1 : ∀ e, e < 2 * n → xIA s L1 e = iI (lkD n C e : Nat)) (h2 : ∀ r c, r < n → c < n → xIA s L2 (n * r + c) = iI (dA C r c)) (u : Option Value × Option Value) : ∃ w', xr M_alike 0 130 [some (.ref 34), some (.int (iI (p : Int))), some (.int (iI (n : Int))), some (.ref L1), some (.ref L2), some (.int (iI ((0 : Nat) : Int))), some (.long (lI (xsl n))), some (.retAddr 7), some (.long (lI ((0 : Nat) : Int))), some (.retAddr 7), u.1, u.2] [] b s = some (.int (iI (cntA n C (wy n 0) : Nat)), w') ∧ IM w' A ∧ wI w' ∧ xFr mT w w' := by
  have wz := wy_zero (n := n) h5.1 (by omega)
  have xb := xsl_bd n (by omega) h5.1
  refine x_loop (fun (N : Nat) (q : XW) (u : Option Value × Option Value) => xr M_alike 0 130 [some (.ref 34), some (.int (iI (p : Int))), some (.int (iI (n : Int))), some (.ref L1), some (.ref L2), some (.int (iI (cntA n C N : Nat))), some (.long (lI (xsl n))), some (.retAddr 7), some (.long (lI (N : Nat))), some (.retAddr 7), u.1, u.2] [] b q) (wy n 0)
    (fun _ q => (∃ D, aI w q (setT A p n D) n L1 L2) ∧ xIA q L1 = xIA s L1 ∧ xIA q L2 = xIA s L2) (fun o => ∃ w', o = some (.int (iI (cntA n C (wy n 0) : Nat)), w') ∧ IM w' A ∧ wI w' ∧ xFr mT w w') (fun N q u hk hq => Or.inr ?_) (fun q u hq => ?_) s u ⟨⟨D, hs⟩, rfl, rfl⟩
  · obtain ⟨⟨E, e1, e2, e3, e4, e5⟩, q1, q2⟩ := hq
    obtain ⟨t, j1, j2, j3, j4, j5⟩ := r_becomes e1 e2 (n := n) (by omega) hk (z := (p : Int)) (zn := (n : Int)) p ⟨rfl, hp, rfl⟩
    rw [setT_setT] at j2
    have at1 : aI w t (setT A p n (buC n N)) n L1 L2 := ⟨j2, j3, e3.tr j4, by rw [j5.2.1]; exact e4, by rw [j5.2.1]; exact e5⟩
    obtain ⟨t', u10, u11, k1, k2, k3⟩ := k_same (C := C) b hp h5 hA hL at1 (fun e he => by rw [j5.2.2 L1 hL.1, q1]; exact h1 e he) (cntA n C N) (lI (xsl n)) (lI (N : Nat))
    refine ⟨t', (u10, u11), ?_, ⟨buC n N, k2⟩, by rw [k3.2.2 L1 hL.1, j5.2.2 L1 hL.1]; exact q1, by rw [k3.2.2 L2 hL.2, j5.2.2 L2 hL.2]; exact q2⟩
    show xr M_alike 0 130 _ [] b q = _
    rw [q_M_alike_130]
    refine s_f (fun z => ?_) (s_g rfl (s_V j1 ?_))
    · have := (lI_le (by omega) (by omega)).mp ((lg_cmp_ge _ _).mp z)
      omega
    · refine Eq.trans k1 ?_
      rw [lI_add]; rfl
  · obtain ⟨⟨E, he⟩, q1, q2⟩ := hq
    obtain ⟨w', k1, k2⟩ := k_restore b hp h5 hN hA hL he (fun r c hr hc => by rw [q2]; exact h2 r c hr hc) (iI (cntA n C (wy n 0) : Nat)) (lI (xsl n)) (some (.retAddr 7), u.1, u.2)
    refine ⟨w', ?_, k2⟩
    show xr M_alike 0 130 _ [] b q = _
    rw [q_M_alike_130]
    refine s_t ((lg_cmp_ge _ _).mpr ((lI_le (by omega) (by omega)).mpr (by omega))) ?_
    rw [q_M_alike_216]
    exact k1
theorem k_copy (b : XB) (hp : p < 8) (h5 : 1 ≤ n ∧ n ≤ 5) (hN : A.1 p = n ∧ A.2.1 p = C) (hA : asm n C) (hL : (43 ≤ L1 ∧ 43 ≤ L2) ∧ L1 ≠ L2) {s : XW} (hs : aI w s A n L1 L2) (h1 : ∀ e, e < 2 * n → xIA s L1 e = iI (lkD n C e : Nat)) : ∃ w', xr M_alike 0 71 [some (.ref 34), some (.int (iI (p : Int))), some (.int (iI (n : Int))), some (.ref L1), some (.ref L2), some (.int (iI ((0 : Nat) : Int))), none, none, none, none, none, none] [] b s = some (.int (iI (cntA n C (wy n 0) : Nat)), w') ∧ IM w' A ∧ wI w' ∧ xFr mT w w' := by
  obtain ⟨q1, q2, q3, q4, q5⟩ := hs
  have rtp : rt s p n C := by
    have := q1.2.1 p hp
    rw [hN.1, hN.2] at this; exact this
  refine x_nest (fun (i : Nat) (q : XW) (u : Option Value) => xr M_alike 0 71 [some (.ref 34), some (.int (iI (p : Int))), some (.int (iI (n : Int))), some (.ref L1), some (.ref L2), some (.int (iI (i : Int))), u, none, none, none, none, none] [] b q)
    (fun (i j : Nat) (q : XW) (_ : Unit) => xr M_alike 0 80 [some (.ref 34), some (.int (iI (p : Int))), some (.int (iI (n : Int))), some (.ref L1), some (.ref L2), some (.int (iI (i : Int))), some (.int (iI (j : Int))), none, none, none, none, none] [] b q)
    n (fun _ => n) (fun i j q => mFr s q ∧ rK s q ∧ q.2.1 = s.2.1 ∧ xIA q L1 = xIA s L1 ∧ ∀ r c, (r < i ∧ c < n) ∨ (r = i ∧ c < j ∧ i < n) → xIA q L2 (n * r + c) = iI (dA C r c)) (fun o => ∃ w', o = some (.int (iI (cntA n C (wy n 0) : Nat)), w') ∧ IM w' A ∧ wI w' ∧ xFr mT w w')
    (fun i q u hi hq => ⟨(), ?_⟩) (fun i j q v hi hj hq => Or.inr ⟨xpI q L2 (n * i + j) (iI (dA C i j)), (), ?_, hq.1.tr (mFr_I (by omega)), hq.2.1.tr (rK_I (by omega)), hq.2.2.1, ?_, ?_⟩) (fun i q v hi hq => ⟨some (.int (iI (n : Int))), ?_, hq.1, hq.2.1, hq.2.2.1, hq.2.2.2.1, fun r c hr => ?_⟩) (fun q u hq => ?_) s none ⟨mFr.rf _, rK.rf _, rfl, rfl, fun r c hr => by omega⟩
  · show xr M_alike 0 71 _ [] b q = _
    rw [q_M_alike_71]
    exact s_lef (by omega) rfl
  · have hGq := hq.1.1.G q1.1
    have ii := idx_n hi hj
    have n2 := sq_5 n (by omega)
    show xr M_alike 0 80 _ [] b q = _
    rw [q_M_alike_80, iI_mul, iI_add, show (n : Int) * i + j = ((n * i + j : Nat) : Int) by rw [Int.natCast_add, Int.natCast_mul], iI_natk _ (by omega)]
    refine s_lef (by omega) (s_g rfl (s_I (r_a hGq (rt_K rtp hq.2.1) hp i j ⟨rfl, rfl, rfl, hi, hj⟩) (s_g (xoa_late (N := n * n) hL.1.2 (by rw [hq.2.2.1]; exact q5) (xin_t (by omega))) ?_)))
    rw [iI_add]; rfl
  · rw [← hq.2.2.2.1]; exact funext fun k => (by rw [a_pI, if_neg hL.2])
  · intro r c hr
    rw [a_pI, if_pos rfl]
    by_cases e : r = i ∧ c = j
    · rw [if_pos (by rw [e.1, e.2]), e.1, e.2]
    · rw [if_neg (fun z => e (idx_inj (by omega) hj z))]; exact hq.2.2.2.2 r c (by omega)
  · show xr M_alike 0 80 _ [] b q = _
    rw [q_M_alike_80]
    refine s_let (by omega) ?_
    rw [q_M_alike_111, iI_add]; rfl
  · exact hq.2.2.2.2 r c (by omega)
  · obtain ⟨a1, a2, a3, a4, a5⟩ := hq
    have hGq := a1.1.G q1.1
    have imq := IM_K q1 hGq a2
    obtain ⟨t, k1, k2, k3, k4, k5⟩ := r_all hGq (wI_m q2 a1) (z := (n : Int)) n ⟨rfl, h5.1, by omega⟩
    have imt := IM_kK imq (k2.G hGq) k3
    have wit : wI t := Or.inr ⟨n, by omega, k4, k5⟩
    have ait : aI w t (setT A p n C) n L1 L2 := by
      refine ⟨?_, wit, (q3.tr a1.1).tr k2, by rw [k3.2.2.1, a3]; exact q4, by rw [k3.2.2.1, a3]; exact q5⟩
      rw [← hN.1, ← hN.2, setT_self]; exact imt
    obtain ⟨w', c1, c2⟩ := k_loop (A := A) (C := C) b hp h5 hN hA hL.1 ait (fun e he => by rw [k3.2.2.2 L1 hL.1.1, a4]; exact h1 e he) (fun r c hr hc => by rw [k3.2.2.2 L2 hL.1.2]; exact a5 r c (Or.inl ⟨hr, hc⟩)) (none, none)
    refine ⟨w', ?_, c2⟩
    show xr M_alike 0 71 _ [] b q = _
    rw [q_M_alike_71]
    refine s_let (by omega) ?_
    rw [q_M_alike_117]
    exact s_g rfl (s_J k1 c1)
theorem k_first (b : XB) (hp : p < 8) (h5 : 1 ≤ n ∧ n ≤ 5) (hN : A.1 p = n ∧ A.2.1 p = C) (hA : asm n C) (hL : (43 ≤ L1 ∧ 43 ≤ L2) ∧ L1 ≠ L2) {s : XW} (hs : aI w s A n L1 L2) : ∃ w', xr M_alike 0 43 [some (.ref 34), some (.int (iI (p : Int))), some (.int (iI (n : Int))), some (.ref L1), some (.ref L2), some (.int (iI ((0 : Nat) : Int))), none, none, none, none, none, none] [] b s = some (.int (iI (cntA n C (wy n 0) : Nat)), w') ∧ IM w' A ∧ wI w' ∧ xFr mT w w' := by
  have rtp : ∀ q, IM q A → rt q p n C := fun q hq => by
    have := hq.2.1 p hp
    rw [hN.1, hN.2] at this; exact this
  refine x_loop (fun (e : Nat) (q : XW) (_ : Unit) => xr M_alike 0 43 [some (.ref 34), some (.int (iI (p : Int))), some (.int (iI (n : Int))), some (.ref L1), some (.ref L2), some (.int (iI (e : Int))), none, none, none, none, none, none] [] b q) (2 * n)
    (fun e q => aI w q A n L1 L2 ∧ ∀ e', e' < e → xIA q L1 e' = iI (lkD n C e' : Nat)) (fun o => ∃ w', o = some (.int (iI (cntA n C (wy n 0) : Nat)), w') ∧ IM w' A ∧ wI w' ∧ xFr mT w w') (fun e q u he hq => Or.inr ?_) (fun q u hq => ?_) s () ⟨hs, fun _ h => by omega⟩
  · obtain ⟨⟨q1, q2, q3, q4, q5⟩, h1⟩ := hq
    obtain ⟨t, a1, a2, a3⟩ := r_joined q1.1 (rtp q q1) hp he (z := (p : Int)) (ze := (e : Int)) ⟨rfl, rfl⟩
    have imt := IM_kK q1 (a2.1.G q1.1) a3
    have f1 : mFr t (xpI t L1 e (iI (lkD n C e : Nat))) := mFr_I (by omega)
    refine ⟨xpI t L1 e (iI (lkD n C e : Nat)), (), ?_, ⟨IM_K imt (f1.1.G imt.1) (rK_I (by omega)), wI_m (wI_m q2 a2) f1, (q3.tr a2.1).tr f1.1, ?_, ?_⟩, fun e' he' => ?_⟩
    · show xr M_alike 0 43 _ [] b q = _
      rw [q_M_alike_43, iI_mul]
      refine s_lef (by omega) (s_g rfl (s_I a1 (s_g (xoa_late (N := 2 * n) hL.1.1 (by rw [a3.2.2.1]; exact q4) (xin_t (by omega))) ?_)))
      rw [iI_natk e (by omega), iI_add]; rfl
    · show t.2.1 L1 = _
      rw [a3.2.2.1]; exact q4
    · show t.2.1 L2 = _
      rw [a3.2.2.1]; exact q5
    · rw [a_pI, if_pos rfl]
      by_cases y : e' = e
      · rw [if_pos y, y]
      · rw [if_neg y, a3.2.2.2 L1 hL.1.1]; exact h1 e' (by omega)
  · obtain ⟨w', k1, k2⟩ := k_copy b hp h5 hN hA hL hq.1 hq.2
    refine ⟨w', ?_, k2⟩
    show xr M_alike 0 43 _ [] b q = _
    rw [q_M_alike_43, iI_mul]
    refine s_let (by omega) ?_
    rw [q_M_alike_68]; exact k1
theorem cntA_ok (hA : asm n C) (h5 : 1 ≤ n ∧ n ≤ 5) : cntA n C (wy n 0) = sumN (fun N => if cod n (buC n N) = cod n C then 1 else 0) (wy n 0) := by
  refine sumN_congr (fun N hN => ?_)
  have := cod_eq (asm_bu (n := n) h5.1 hN) hA h5.2
  by_cases q : cod n (buC n N) = cod n C
  · rw [if_pos q, if_pos (this.mp q)]
  · rw [if_neg q, if_neg (fun z => q (this.mpr z))]
theorem r_alike (h : IM w A) (hI : wI w) {z : Int} (hz : i32 z) : ∃ w', xm M_alike 0 [.ref 34, .int (iI z)] w = some (.int (iI (o_alike A z)), w') ∧ IM w' A ∧ wI w' ∧ xFr mT w w' := by
  have h0 := IM_F (k := 0) (v := iI 0) h (by decide)
  have f0 : mFr w (xpF w 34 0 (iI 0)) := mFr_F (by decide)
  rw [e_M_alike, q_M_alike_0]
  unfold o_alike
  by_cases h1 : 0 ≤ z ∧ z < 8
  · have t := h0.2.1 z.toNat (by omega)
    have hn := t.1
    obtain ⟨g1, g2, g3⟩ := r_sizes h0.1 t (z := z) (by omega)
    by_cases h2 : A.1 z.toNat ≤ 5
    · rw [if_pos ⟨h1, h2⟩, ← cntA_ok t.2.1 ⟨hn.1, h2⟩]
      have n2 := sq_5 (A.1 z.toNat) (by omega)
      have l1 := h0.1.1
      have fA1 : mFr (xpF w 34 0 (iI 0)) (xmA (xpF w 34 0 (iI 0)) (2 * A.1 z.toNat)) := mFr_mA l1
      have G1 := fA1.1.G h0.1
      have l2 := G1.1
      have xn1 : xn (xmA (xpF w 34 0 (iI 0)) (2 * A.1 z.toNat)) = xn (xpF w 34 0 (iI 0)) + 1 := rfl
      have fA2 : mFr (xmA (xpF w 34 0 (iI 0)) (2 * A.1 z.toNat)) (xmA (xmA (xpF w 34 0 (iI 0)) (2 * A.1 z.toNat)) (A.1 z.toNat * A.1 z.toNat)) := mFr_mA l2
      have im2 := IM_K (IM_K h0 G1 (rK_mA l1)) (fA2.1.G G1) (rK_mA l2)
      have ez : z = (z.toNat : Int) := by omega
      have ai : aI w (xmA (xmA (xpF w 34 0 (iI 0)) (2 * A.1 z.toNat)) (A.1 z.toNat * A.1 z.toNat)) A (A.1 z.toNat) (xn (xpF w 34 0 (iI 0))) (xn (xmA (xpF w 34 0 (iI 0)) (2 * A.1 z.toNat))) := by
        refine ⟨im2, wI_m (wI_m (wI_m hI f0) fA1) fA2, (f0.1.tr fA1.1).tr fA2.1, ?_, ln_mA _ _⟩
        show va_up (xmA (xpF w 34 0 (iI 0)) (2 * A.1 z.toNat)).2.1 (xn (xmA (xpF w 34 0 (iI 0)) (2 * A.1 z.toNat))) (A.1 z.toNat * A.1 z.toNat) (xn (xpF w 34 0 (iI 0))) = _
        rw [va_up_ne _ _ (by omega)]
        exact ln_mA _ _
      obtain ⟨w', k1, k2⟩ := k_first (A := A) (p := z.toNat) (n := A.1 z.toNat) (C := A.2.1 z.toNat) (0, 35 - 2 * A.1 z.toNat - A.1 z.toNat * A.1 z.toNat) (by omega) ⟨hn.1, h2⟩ ⟨rfl, rfl⟩ t.2.1 ⟨⟨l1, l2⟩, by omega⟩ ai
      rw [← ez] at k1
      refine ⟨w', s_g rfl (s_I (r_knows hz) (s_pt h1 (s_g rfl (s_o g1 (s_g g2 ?_))))), k2⟩
      rw [g3]
      refine s_let (by omega) ?_
      rw [q_M_alike_20]
      refine s_g rfl (s_o g1 (s_g g2 ?_))
      rw [g3, iI_mul, iI_mul, show (2 : Int) * (A.1 z.toNat : Int) = ((2 * A.1 z.toNat : Nat) : Int) by omega, show (A.1 z.toNat : Int) * (A.1 z.toNat : Int) = ((A.1 z.toNat * A.1 z.toNat : Nat) : Int) by rw [Int.natCast_mul], iI_natk _ (by omega), iI_natk _ (by omega)]
      refine s_g (xnok_late h0.1 (by omega) (by decide) ?_) (s_g (xnok_late G1 (by omega) (show 0 < 1 by decide) ?_) k1)
      · show ((2 * A.1 z.toNat : Nat) : Int).toNat ≤ 35
        omega
      · show ((A.1 z.toNat * A.1 z.toNat : Nat) : Int).toNat ≤ 35 - 2 * A.1 z.toNat
        omega
    · rw [if_neg (fun q => h2 q.2)]
      refine ⟨_, s_g rfl (s_I (r_knows hz) (s_pt h1 (s_g rfl (s_o g1 (s_g g2 ?_))))), h0, wI_m hI f0, f0.1⟩
      rw [g3]
      refine s_lef (by omega) ?_
      rw [q_M_alike_18]
  · rw [if_neg (fun q => h1 q.1)]
    refine ⟨_, s_g rfl (s_I (r_knows hz) (s_pf h1 ?_)), h0, wI_m hI f0, f0.1⟩
    rw [q_M_alike_18]
end XALK4
