/-! ===== LOOPS, 8 (own work): rings of the reference ===== -/
abbrev O3 := Option Value × Option Value × Option Value
section XLOP8
variable {w : XW} {A : AS} {n p : Nat} {C : Nat → Nat → Int}
theorem r_ringsGo (hG : XG w) (h : rt w p n C) (hp : p < 8) (hz : ∀ j, j < 100 → xIA w 38 j = iI 0) : ∃ w', xr M_rings 0 43 [some (.ref 34), some (.int (iI (p : Int))), some (.int (iI (n : Int))), some (.int (iI ((0 : Nat) : Int))), none, none, none, none, none] [] (0, 0) w = some (.int (iI (rgN n C n : Nat)), w') ∧ mFr w w' ∧ kK w w' := by
  have hn := h.1
  have hA := h.2.1
  refine x_loop (fun (e : Nat) (s : XW) (u : Option Value) => xr M_rings 0 43 [some (.ref 34), some (.int (iI (p : Int))), some (.int (iI (n : Int))), some (.int (iI (e : Int))), u, none, none, none, none] [] (0, 0) s) (2 * n)
    (fun e s => mFr w s ∧ kK w s ∧ mrkR w s (fun u => ∃ e', e' < e ∧ rcD n C (plD (enD n e')) u)) (fun o => ∃ w', o = some (.int (iI (rgN n C n : Nat)), w') ∧ mFr w w' ∧ kK w w') (fun e s u he hP => Or.inr ?_) (fun s u hP => ?_) w none ⟨mFr.rf _, kK.rf _, mrkR_cg (mrkR_rf _) (fun j => ⟨fun q => q.elim, fun q => by obtain ⟨k, hk, _⟩ := q; omega⟩)⟩
  · obtain ⟨p1, p2, p3⟩ := hP
    have hGs := p1.1.G hG
    have hs := rt_kK h p2
    obtain ⟨s1, a1, a2, a3, a4⟩ := r_leaves hGs hs hp he
    refine ⟨s1, some (.int (iI (cdN n (lkD n C e) : Nat))), ?_, p1.tr a2, p2.tr a3, mrkR_cg (mrkR_tr p3 a4) (fun u => ⟨?_, ?_⟩)⟩
    · show xr M_rings 0 43 _ [] (0, 0) s = _
      rw [q_M_rings_43, iI_mul]
      refine s_lef (by omega) (s_g rfl (s_I (r_end hGs hs hp he ⟨rfl, rfl⟩) (s_g rfl (s_I a1 ?_))))
      rw [iI_add]; rfl
    · rintro (⟨e', q1, q2⟩ | q)
      · exact ⟨e', by omega, q2⟩
      · exact ⟨e, by omega, q⟩
    · rintro ⟨e', q1, q2⟩
      by_cases y : e' = e
      · rw [y] at q2; exact Or.inr q2
      · exact Or.inl ⟨e', by omega, q2⟩
  · obtain ⟨p1, p2, p3⟩ := hP
    have p3' := mrkR_cg p3 (fun u => Zm_zero (n := n) (C := C) u)
    show ∃ w', xr M_rings 0 43 _ [] (0, 0) s = _ ∧ _
    rw [q_M_rings_43, iI_mul]
    suffices hs : ∃ w', xr M_rings 0 74 [some (.ref 34), some (.int (iI (p : Int))), some (.int (iI (n : Int))), some (.int (iI ((rgN n C 0 : Nat) : Int))), some (.int (iI ((0 : Nat) : Int))), none, none, none, none] [] (0, 0) s = some (.int (iI (rgN n C n : Nat)), w') ∧ mFr w w' ∧ kK w w' by
      obtain ⟨w', k1, k2⟩ := hs
      have e0 : rgN n C 0 = 0 := rfl
      rw [e0] at k1
      refine ⟨w', s_let (by omega) ?_, k2⟩
      rw [q_M_rings_69]
      exact k1
    refine x_nest (fun (i : Nat) (s : XW) (u : O4) => xr M_rings 0 74 [some (.ref 34), some (.int (iI (p : Int))), some (.int (iI (n : Int))), some (.int (iI ((rgN n C i : Nat) : Int))), some (.int (iI (i : Int))), u.1, u.2.1, u.2.2.1, u.2.2.2] [] (0, 0) s)
      (fun (i j : Nat) (s : XW) (v : O3) => xr M_rings 0 83 [some (.ref 34), some (.int (iI (p : Int))), some (.int (iI (n : Int))), some (.int (iI ((rgN n C i + sumN (rgB n C i) j : Nat) : Int))), some (.int (iI (i : Int))), some (.int (iI (j : Int))), v.1, v.2.1, v.2.2] [] (0, 0) s)
      n (fun _ => n) (fun i j s => mFr w s ∧ kK w s ∧ mrkR w s (Zm n C i j)) (fun o => ∃ w', o = some (.int (iI (rgN n C n : Nat)), w') ∧ mFr w w' ∧ kK w w')
      (fun i s u hi hP => ⟨(u.2.1, u.2.2.1, u.2.2.2), ?_⟩) (fun i j s v hi hj hP => Or.inr ?_) (fun i s v hi hP => ⟨(some (.int (iI (n : Int))), v.1, v.2.1, v.2.2), ?_, hP.1, hP.2.1, mrkR_cg hP.2.2 (Zm_row i)⟩) (fun s u hP => ⟨s, ?_, hP.1, hP.2.1⟩) s (none, none, none, none) ⟨p1, p2, p3'⟩
    · show xr M_rings 0 74 _ [] (0, 0) s = _
      rw [q_M_rings_74]
      exact s_lef (by omega) rfl
    · obtain ⟨p1, p2, p3⟩ := hP
      have hGs := p1.1.G hG
      have hs := rt_kK h p2
      have mk1 : ∀ j', j' < 100 → (Zm n C i j j' → ¬ xIA s 38 j' = iI 0) ∧ (¬ Zm n C i j j' → xIA s 38 j' = iI 0) := fun j' hj' => ⟨fun q => by rw [p3.1 j' q]; decide, fun q => by rw [p3.2 j' q]; exact hz j' hj'⟩
      have mk0 := mk1 (i * 10 + j) (by omega)
      have ix : (iI 10 * iI (i : Int) + iI (j : Int)).toNatClampNeg = i * 10 + j := by rw [iI_mul, iI_add, iI_nat (by omega)]; omega
      have xo1 : xin (iI 10 * iI (i : Int) + iI (j : Int)) 100 = true := by rw [iI_mul, iI_add]; exact xin_t (n := 100) (by omega)
      show ∃ s' v', xr M_rings 0 83 _ [] (0, 0) s = _ ∧ _
      rw [q_M_rings_83, ix]
      by_cases q : Zm n C i j (i * 10 + j)
      · refine ⟨s, v, s_lef (by omega) (s_g rfl (s_o (hGs.r (by decide) rfl) (s_g xo1 (s_f (mk0.1 q) ?_)))), p1, p2, mrkR_cg p3 (Zm_skip hi hj q)⟩
        rw [q_M_rings_180, iI_add, show sumN (rgB n C i) (j + 1) = sumN (rgB n C i) j + rgB n C i j from rfl, rgB_0 q]; rfl
      · obtain ⟨s1, u6, u7, u8, b1, b2, b3, b4⟩ := g_ring hGs hs hp (Zm_cl i j) (fun y hy he => Zm_bd hA i j hy he) mk1 hi hj q (m := iI ((rgN n C i + sumN (rgB n C i) j : Nat) : Int) + iI 1) (i := iI (i : Int)) (j := iI (j : Int))
        refine ⟨s1, (u6, u7, u8), s_lef (by omega) (s_g rfl (s_o (hGs.r (by decide) rfl) (s_g xo1 (s_t (mk0.2 q) ?_)))), p1.tr b2, p2.tr b3, mrkR_cg (mrkR_tr p3 b4) (Zm_next hi hj)⟩
        rw [q_M_rings_108]
        refine Eq.trans b1 ?_
        rw [q_M_rings_180, iI_add, iI_add, show sumN (rgB n C i) (j + 1) = sumN (rgB n C i) j + rgB n C i j from rfl, rgB_1 q]; rfl
    · show xr M_rings 0 83 _ [] (0, 0) s = _
      rw [q_M_rings_83]
      refine s_let (by omega) ?_
      rw [q_M_rings_186, iI_add]; rfl
    · show xr M_rings 0 74 _ [] (0, 0) s = _
      rw [q_M_rings_74]
      refine s_let (by omega) ?_
      rw [q_M_rings_192]
theorem r_rings (h : IM w A) {z : Int} (hz : i32 z) : ∃ w', xm M_rings 0 [.ref 34, .int (iI z)] w = some (.int (iI (o_rings A z)), w') ∧ IM w' A ∧ mFr w w' := by
  have h0 := IM_F (k := 0) (v := iI 0) h (by decide)
  have f0 : mFr w (xpF w 34 0 (iI 0)) := mFr_F (by decide)
  rw [e_M_rings, q_M_rings_0]
  unfold o_rings
  by_cases h1 : 0 ≤ z ∧ z < 8
  · have t := h0.2.1 z.toNat (by omega)
    have hn := t.1
    obtain ⟨g1, g2, g3⟩ := r_sizes h0.1 t (z := z) (by omega)
    rw [if_pos h1]
    have ez : z = (z.toNat : Int) := by omega
    suffices hs : ∃ w', xr M_rings 0 19 [some (.ref 34), some (.int (iI z)), some (.int (iI (A.1 z.toNat : Int))), some (.int (iI ((0 : Nat) : Int))), none, none, none, none, none] [] (0, 0) (xpF w 34 0 (iI 0)) = some (.int (iI (rgN (A.1 z.toNat) (A.2.1 z.toNat) (A.1 z.toNat) : Nat)), w') ∧ mFr (xpF w 34 0 (iI 0)) w' ∧ kK (xpF w 34 0 (iI 0)) w' by
      obtain ⟨w', k1, k2, k3⟩ := hs
      refine ⟨w', s_g rfl (s_I (r_knows hz) (s_pt h1 ?_)), IM_kK h0 (k2.1.G h0.1) k3, f0.tr k2⟩
      rw [q_M_rings_10]
      refine s_g rfl (s_o g1 (s_g g2 ?_))
      rw [g3]; exact k1
    refine x_loop (fun (k : Nat) (s : XW) (_ : Unit) => xr M_rings 0 19 [some (.ref 34), some (.int (iI z)), some (.int (iI (A.1 z.toNat : Int))), some (.int (iI (k : Int))), none, none, none, none, none] [] (0, 0) s) 100
      (fun k s => mFr (xpF w 34 0 (iI 0)) s ∧ kK (xpF w 34 0 (iI 0)) s ∧ ∀ j, j < k → xIA s 38 j = iI 0) (fun o => ∃ w', o = some (.int (iI (rgN (A.1 z.toNat) (A.2.1 z.toNat) (A.1 z.toNat) : Nat)), w') ∧ mFr (xpF w 34 0 (iI 0)) w' ∧ kK (xpF w 34 0 (iI 0)) w') (fun k s u hk hP => Or.inr ⟨xpI s 38 k (iI 0), (), ?_, hP.1.tr (mFr_I (by decide)), hP.2.1.tr (kK_I (by decide)), fun j hj => ?_⟩) (fun s u hP => ?_) (xpF w 34 0 (iI 0)) () ⟨mFr.rf _, kK.rf _, fun j hj => by omega⟩
    · have hGs := hP.1.1.G h0.1
      show xr M_rings 0 19 _ [] (0, 0) s = _
      rw [q_M_rings_19]
      refine s_g rfl (s_o (hGs.r (by decide) rfl) (s_g rfl (s_lef ?_ (s_g rfl (s_o (hGs.r (by decide) rfl) (s_g (xin_t (n := 100) (by omega)) (s_g rfl ?_)))))))
      · show (k : Int) < ((100 : Nat) : Int) ∧ _ ∧ ((100 : Nat) : Int) < _; omega
      · rw [iI_natk k (by omega), iI_add]; rfl
    · rw [a_pI, if_pos rfl]
      by_cases e : j = k
      · rw [if_pos e]
      · rw [if_neg e]; exact hP.2.2 j (by omega)
    · have hGs := hP.1.1.G h0.1
      obtain ⟨w', k1, k2, k3⟩ := r_ringsGo hGs (rt_kK t hP.2.1) (by omega) hP.2.2
      rw [← ez] at k1
      refine ⟨w', ?_, hP.1.tr k2, hP.2.1.tr k3⟩
      show xr M_rings 0 19 _ [] (0, 0) s = _
      rw [q_M_rings_19]
      refine s_g rfl (s_o (hGs.r (by decide) rfl) (s_g rfl (s_let ?_ ?_)))
      · show ((100 : Nat) : Int) ≤ ((100 : Nat) : Int) ∧ -2147483648 ≤ ((100 : Nat) : Int) ∧ ((100 : Nat) : Int) < _; omega
      · rw [q_M_rings_41]; exact k1
  · rw [if_neg h1]
    exact ⟨_, s_g rfl (s_I (r_knows hz) (s_pf h1 rfl)), h0, f0⟩
end XLOP8
