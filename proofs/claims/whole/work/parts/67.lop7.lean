/-! ===== LOOPS, 7 (own work): link and rings of the reference ===== -/
section XLOP7
variable {w : XW} {A : AS} {n p : Nat} {C : Nat → Nat → Int}
theorem l_pro (hG : XG w) (h : rt w p n C) (hp : p < 8) (l : Bool) (i j r c : Nat) (hi : i ≤ n) (hj : j ≤ n) (hrc : (l = true ∧ r = i ∧ ((j = n ∧ c + 1 = n) ∨ (j ≠ n ∧ c = j))) ∨ (l = false ∧ c = j ∧ ((i = n ∧ r + 1 = n) ∨ (i ≠ n ∧ r = i)))) : xm M_leaves 0 [.ref 34, .int (iI (p : Int)), .int (iI (cdE l i j : Nat))] w = lF p (iI (cdE l i j : Nat)) (bI l) (iI (n : Int)) w (r : Nat) (c : Nat) (cdE l i j) := by
  have hn := h.1
  obtain ⟨g1, g2, g3⟩ := r_sizes hG h (z := (p : Int)) ⟨rfl, hp⟩
  rw [e_M_leaves, q_M_leaves_0]
  unfold lF
  rcases hrc with ⟨rfl, rfl, hc⟩ | ⟨rfl, rfl, hr⟩
  · have ec : cdE true r j = 100 * r + j := by unfold cdE; rw [if_pos rfl, Nat.zero_add]
    rw [ec]
    refine s_lef (by omega) ?_
    rw [q_M_leaves_12, iI_rem (by omega) (by decide), iI_rem (by omega) (by decide)]
    refine s_f (by decide) (s_f (by decide) (s_f (by decide) (s_g rfl (s_o g1 (s_g g2 ?_)))))
    rw [g3, iI_div (by omega) (by decide), show ((100 * r + j : Nat) : Int) % 10000 / 100 = (r : Nat) by omega, show ((100 * r + j : Nat) : Int) % 100 = (j : Nat) by omega]
    refine s_f (by decide) ?_
    rcases hc with ⟨q1, q2⟩ | ⟨q1, q2⟩
    · refine s_eqt (by omega) ?_
      rw [q_M_leaves_51]
      refine s_f (by decide) ?_
      rw [q_M_leaves_65, iI_add, show (j : Int) + -1 = (c : Nat) by omega]; rfl
    · refine s_eqf (by omega) ?_
      rw [q_M_leaves_51]
      refine s_f (by decide) ?_
      rw [q_M_leaves_65, q2]; rfl
  · have ec : cdE false i c = 10000 + 100 * i + c := by unfold cdE; rw [if_neg (by decide)]
    rw [ec]
    refine s_let (by omega) ?_
    rw [q_M_leaves_11, q_M_leaves_12, iI_rem (by omega) (by decide), iI_rem (by omega) (by decide)]
    refine s_f (by decide) (s_f (by decide) (s_f (by decide) (s_g rfl (s_o g1 (s_g g2 ?_)))))
    rw [g3, iI_div (by omega) (by decide), show ((10000 + 100 * i + c : Nat) : Int) % 10000 / 100 = (i : Nat) by omega, show ((10000 + 100 * i + c : Nat) : Int) % 100 = (c : Nat) by omega]
    refine s_t rfl ?_
    rw [q_M_leaves_51]
    refine s_t rfl ?_
    rcases hr with ⟨q1, q2⟩ | ⟨q1, q2⟩
    · refine s_eqt (by omega) ?_
      rw [q_M_leaves_65, iI_add, show (i : Int) + -1 = (r : Nat) by omega]; rfl
    · refine s_eqf (by omega) ?_
      rw [q_M_leaves_65, q2]; rfl
theorem r_leaves (hG : XG w) (h : rt w p n C) (hp : p < 8) {e : Nat} (he : e < 2 * n) : ∃ s', xm M_leaves 0 [.ref 34, .int (iI (p : Int)), .int (iI (cdN n e : Nat))] w = some (.int (iI (cdN n (lkD n C e) : Nat)), s') ∧ mFr w s' ∧ kK w s' ∧ mrkR w s' (rcD n C (plD (enD n e))) := by
  have hn := h.1
  obtain ⟨s', a1, a2⟩ := l_from_end hG h hp he (i2 := iI (cdN n e : Nat)) (i3 := bI (egR n (2 * e + 1)).1) (i6 := iI (n : Int))
  refine ⟨s', ?_, a2⟩
  rw [← cdN_en he] at a1
  refine Eq.trans (l_pro hG h hp (egR n (2 * e + 1)).1 (egR n (2 * e + 1)).2.1 (egR n (2 * e + 1)).2.2 (enD n e).1 (enD n e).2.1 ?_ ?_ ?_) a1
  · unfold egR
    split
    · exact Nat.zero_le _
    · split
      · show 2 * e + 1 - n ≤ n; omega
      · split
        · exact Nat.le_refl _
        · show n - 1 - (2 * e + 1 - 3 * n) ≤ n; omega
  · unfold egR
    split
    · show 2 * e + 1 ≤ n; omega
    · split
      · exact Nat.le_refl _
      · split
        · show n - 1 - (2 * e + 1 - 2 * n) ≤ n; omega
        · exact Nat.zero_le _
  · unfold egR enD
    by_cases h1 : 2 * e + 1 < n
    · rw [if_pos h1, if_pos h1]
      exact Or.inr ⟨rfl, rfl, Or.inr ⟨show 0 ≠ n by omega, rfl⟩⟩
    · rw [if_neg h1, if_neg h1]
      by_cases h2 : 2 * e + 1 < 2 * n
      · rw [if_pos h2, if_pos h2]
        exact Or.inl ⟨rfl, rfl, Or.inl ⟨rfl, show n - 1 + 1 = n by omega⟩⟩
      · rw [if_neg h2, if_neg h2]
        by_cases h3 : 2 * e + 1 < 3 * n
        · rw [if_pos h3, if_pos h3]
          exact Or.inr ⟨rfl, rfl, Or.inl ⟨rfl, show n - 1 + 1 = n by omega⟩⟩
        · rw [if_neg h3, if_neg h3]
          exact Or.inl ⟨rfl, rfl, Or.inr ⟨show 0 ≠ n by omega, rfl⟩⟩
theorem r_joined (hG : XG w) (h : rt w p n C) (hp : p < 8) {e : Nat} (he : e < 2 * n) {z ze : Int} (hz : z = p ∧ ze = e) : ∃ s', xm M_joined 0 [.ref 34, .int (iI z), .int (iI ze)] w = some (.int (iI (lkD n C e : Nat)), s') ∧ mFr w s' ∧ kK w s' := by
  obtain ⟨rfl, rfl⟩ := hz
  have hn := h.1
  obtain ⟨s', a1, a2, a3, a4⟩ := r_leaves hG h hp he
  have hG1 := a2.1.G hG
  have h1 := rt_kK h a3
  obtain ⟨k1, k2, k3, k4, k5, k6⟩ := ex_ok h.2.1 hn.2 he
  refine ⟨s', ?_, a2, a3⟩
  rw [e_M_joined, q_M_joined_0]
  refine s_g rfl (s_I (r_end hG h hp he ⟨rfl, rfl⟩) (s_g rfl (s_I a1 ?_)))
  have up := x_up (fun k : Nat => xr M_joined 0 15 [some (.ref 34), some (.int (iI (p : Int))), some (.int (iI (e : Int))), some (.int (iI (cdN n (lkD n C e) : Nat))), some (.int (iI (k : Int)))] [] (0, 0) s') (N := lkD n C e) (fun k hk => by
    have c1 := cdN_le (n := n) hn.2 (e := k) (by omega)
    have c2 := cdN_le (n := n) hn.2 k5
    show xr M_joined 0 15 _ [] (0, 0) s' = _
    rw [q_M_joined_15]
    refine s_g rfl (s_I (r_end hG1 h1 hp (e := k) (by omega) ⟨rfl, rfl⟩) (s_eqf ⟨fun q => ?_, by omega, by omega⟩ ?_))
    · have := cdN_inj hn.2 (by omega) k5 (Int.ofNat.inj q)
      omega
    · rw [iI_add]; rfl) 0 (Nat.zero_le _)
  refine Eq.trans up ?_
  show xr M_joined 0 15 _ [] (0, 0) s' = _
  rw [q_M_joined_15]
  refine s_g rfl (s_I (r_end hG1 h1 hp k5 ⟨rfl, rfl⟩) (s_eqt rfl ?_))
  rw [q_M_joined_32]
theorem r_link (h : IM w A) {z e : Int} (hz : i32 z) (he : i32 e) : ∃ w', xm M_link 0 [.ref 34, .int (iI z), .int (iI e)] w = some (.int (iI (o_link A z e)), w') ∧ IM w' A ∧ mFr w w' := by
  have h0 := IM_F (k := 0) (v := iI 0) h (by decide)
  have f0 : mFr w (xpF w 34 0 (iI 0)) := mFr_F (by decide)
  rw [e_M_link, q_M_link_0, iI_zero]
  unfold o_link
  by_cases h1 : 0 ≤ z ∧ z < 8
  · have t := h0.2.1 z.toNat (by omega)
    have hn := t.1
    obtain ⟨g1, g2, g3⟩ := r_sizes h0.1 t (z := z) (by omega)
    by_cases h2 : e < 0
    · rw [if_neg (fun q => by omega)]
      refine ⟨_, s_g rfl (s_I (r_knows hz) (s_pt h1 (s_ltt (by omega) ?_))), h0, f0⟩
      rw [q_M_link_24, q_M_link_34]
    · by_cases h3 : e < 2 * (A.1 z.toNat : Int)
      · rw [if_pos ⟨h1, by omega⟩]
        obtain ⟨w', k1, k2, k3⟩ := r_joined h0.1 t (by omega) (e := e.toNat) (by omega) (z := z) (ze := e) (by omega)
        refine ⟨w', s_g rfl (s_I (r_knows hz) (s_pt h1 (s_ltf (by omega) (s_g rfl (s_o g1 (s_g g2 ?_)))))), IM_kK h0 (k2.1.G h0.1) k3, f0.tr k2⟩
        rw [g3, iI_mul]
        refine s_ltt (by omega) ?_
        rw [q_M_link_28]
        refine s_g rfl (s_I k1 ?_)
        rw [q_M_link_34]
      · rw [if_neg (fun q => by omega)]
        refine ⟨_, s_g rfl (s_I (r_knows hz) (s_pt h1 (s_ltf (by omega) (s_g rfl (s_o g1 (s_g g2 ?_)))))), h0, f0⟩
        rw [g3, iI_mul]
        refine s_ltf (by omega) ?_
        rw [q_M_link_24, q_M_link_34]
  · rw [if_neg (fun q => h1 q.1)]
    refine ⟨_, s_g rfl (s_I (r_knows hz) (s_pf h1 ?_)), h0, f0⟩
    rw [q_M_link_24, q_M_link_34]
/-! rings -/
noncomputable def gF (p n : Nat) (m i j : Int32) (s : XW) (zr zc zd : Int) : Option XR := xr M_rings 0 122 [some (.ref 34), some (.int (iI (p : Int))), some (.int (iI (n : Int))), some (.int m), some (.int i), some (.int j), some (.int (iI zr)), some (.int (iI zc)), some (.int (iI zd))] [] (0, 0) s
theorem g_seen {s : XW} (hG : XG s) {r c : Nat} (hr : r < 10) (hc : c < 10) {m i j : Int32} {zd : Int} (hz : ¬ xIA s 38 (r * 10 + c) = iI 0) : gF p n m i j s (r : Nat) (c : Nat) zd = xr M_rings 0 180 [some (.ref 34), some (.int (iI (p : Int))), some (.int (iI (n : Int))), some (.int m), some (.int i), some (.int j), some (.int (iI (r : Nat))), some (.int (iI (c : Nat))), some (.int (iI zd))] [] (0, 0) s := by
  unfold gF
  rw [q_M_rings_122]
  refine s_g rfl (s_o (hG.r (by decide) rfl) (s_g ?_ ?_))
  · rw [iI_mul, iI_add]; exact xin_t (n := 100) (by omega)
  · rw [iI_mul, iI_add, iI_nat (by omega), show (10 * (r : Int) + c).toNat = r * 10 + c by omega]
    exact s_f hz rfl
theorem g_step {s : XW} (hG : XG s) (h : rt s p n C) (hp : p < 8) {r c o : Nat} (hr : r < n) (hc : c < n) {m i j : Int32} {zd : Int} (hz : xIA s 38 (r * 10 + c) = iI 0) (hzd : -2 < zd ∧ zd < 30000) (ho : o < 4) (hs : sH C r c o = true) (hne : (cdS r c o : Int) ≠ zd) (hno : ∀ k, k < psK o → (cdS r c (sdK k) : Int) = zd ∨ sH C r c (sdK k) = false) : gF p n m i j s (r : Nat) (c : Nat) zd = gF p n m i j (nS2 s (r, c, 0) o) ((r : Int) + xsi 1 o) ((c : Int) + xsi 2 o) (cdS r c o : Nat) := by
  have hn := h.1
  obtain ⟨k1, k2, k3, k4, k5⟩ := nS2_ok s (r, c, 0) o
  have ix : (iI 10 * iI (r : Nat) + iI (c : Nat)).toNatClampNeg = r * 10 + c := by
    rw [iI_mul, iI_add, iI_nat (by omega)]; omega
  have f1 : mFr s (xpI s 38 (r * 10 + c) (iI 1)) := mFr_I (by decide)
  have nx := r_next (f1.1.G hG) (rt_kK h (kK_I (a := 38) (k := r * 10 + c) (v := iI 1) (by decide))) hp hr hc hzd ho hs hne hno
  have xo1 : xin (iI 10 * iI (r : Nat) + iI (c : Nat)) 100 = true := by rw [iI_mul, iI_add]; exact xin_t (n := 100) (by omega)
  unfold gF
  rw [q_M_rings_122]
  refine s_g rfl (s_o (hG.r (by decide) rfl) (s_g xo1 ?_))
  rw [ix]
  refine s_t hz (s_g rfl (s_o (hG.r (by decide) rfl) (s_g xo1 (s_g rfl (s_g rfl (s_I nx (s_g rfl (s_g rfl ?_))))))))
  show xr M_rings 0 122 [_, _, _, _, _, _, some (.int (xIF (nS2 s (r, c, 0) o) 34 6)), some (.int (xIF (nS2 s (r, c, 0) o) 34 7)), _] [] (0, 0) (nS2 s (r, c, 0) o) = _
  rw [k4, k5]
/-- 38 holds 0 or 1 alone -/
def z01 (s : XW) : Prop := ∀ j, j < 100 → xIA s 38 j = iI 0 ∨ xIA s 38 j = iI 1
theorem z01_m {s s' : XW} {P : Nat → Prop} (h : z01 s) (m : mrkR s s' P) : z01 s' := fun j hj => by
  by_cases q : P j
  · exact Or.inr (m.1 j q)
  · rw [m.2 j q]; exact h j hj
theorem g_ring {s : XW} (hG : XG s) (h : rt s p n C) (hp : p < 8) {P : Nat → Prop} (cP : clD n C P) (hB : ∀ y, vdD n C y → exD n C y = true → P (plD y)) (hP : ∀ j, j < 100 → (P j → ¬ xIA s 38 j = iI 0) ∧ (¬ P j → xIA s 38 j = iI 0)) {r c : Nat} (hr : r < n) (hc : c < n) (q : ¬ P (r * 10 + c)) {m i j : Int32} : ∃ s' u6 u7 u8, gF p n m i j s (r : Nat) (c : Nat) (-1) = xr M_rings 0 180 [some (.ref 34), some (.int (iI (p : Int))), some (.int (iI (n : Int))), some (.int m), some (.int i), some (.int j), u6, u7, u8] [] (0, 0) s' ∧ mFr s s' ∧ kK s s' ∧ mrkR s s' (fun u => rcD n C (r * 10 + c) u) := by
  have hA := h.2.1
  have hn := h.1
  have L := LW_D hA hn.2
  obtain ⟨f1, f2, f3⟩ := fsR_ok hA hr hc
  obtain ⟨o1, o2, o3, o4⟩ := oT_ok hA hr hc f1 f2
  have oo := oT_oT hA hr hc f1 f2
  have hx : vdD n C (r, c, oT C r c (fsR C r c)) := ⟨hr, hc, o2, o3⟩
  have hK := ring_no L hx cP hB q
  obtain ⟨b, b1, b2, b3, b4⟩ := ring_ex L hx hK
  have V := fun k => it_vd L hx (fun j (_ : j < k) => hK j) k (Nat.le_refl _)
  have nP : ∀ k, ¬ P (plD (itD (nxD C) (r, c, oT C r c (fsR C r c)) k)) := fun k z => q (cl_itb L hx cP (K := k) (fun j _ => hK j) k (Nat.le_refl _) z)
  have nZ : ∀ k, xIA s 38 (plD (itD (nxD C) (r, c, oT C r c (fsR C r c)) k)) = iI 0 := fun k => (hP _ (L.a7 _ (V k))).2 (nP k)
  have xe : oT C r c (oT C r c (fsR C r c)) = fsR C r c := oo
  have run : ∀ K, K + 1 ≤ b → ∃ s', gF p n m i j s (r : Nat) (c : Nat) (-1) = gF p n m i j s' ((itD (nxD C) (r, c, oT C r c (fsR C r c)) (K + 1)).1 : Nat) ((itD (nxD C) (r, c, oT C r c (fsR C r c)) (K + 1)).2.1 : Nat) (cdS (itD (nxD C) (r, c, oT C r c (fsR C r c)) (K + 1)).1 (itD (nxD C) (r, c, oT C r c (fsR C r c)) (K + 1)).2.1 (itD (nxD C) (r, c, oT C r c (fsR C r c)) (K + 1)).2.2 : Nat) ∧ mFr s s' ∧ kK s s' ∧ mrkR s s' (fun j => ∃ k, k < K + 1 ∧ j = plD (itD (nxD C) (r, c, oT C r c (fsR C r c)) k)) := by
    intro K
    induction K with
    | zero =>
      intro hb
      have hex := hK 0
      have hex' : ouD n r c (fsR C r c) = false := by
        have : ouD n r c (oT C r c (oT C r c (fsR C r c))) = false := hex
        rw [xe] at this; exact this
      obtain ⟨d1, d2, d3, d4⟩ := (dn_ac _ f1 n _ _ hr hc).2 hex'
      have hst := g_step hG h hp hr hc (m := m) (i := i) (j := j) (zd := -1) (nZ 0) (by omega) f1 f2 (by omega) (fun k hk => Or.inr (f3 k hk))
      rw [d2, d3, ← cd_mv hr hc f1 hex'] at hst
      have e1 : itD (nxD C) (r, c, oT C r c (fsR C r c)) (0 + 1) = mvD r c (fsR C r c) := by
        show mvD r c (oT C r c (oT C r c (fsR C r c))) = _
        rw [xe]
      obtain ⟨k1, k2, k3, k4, k5⟩ := nS2_ok s (r, c, 0) (fsR C r c)
      refine ⟨_, by rw [e1]; exact hst, k1, k2, mrkR_cg k3 (fun u => ⟨fun z => ⟨0, by omega, z⟩, fun z => ?_⟩)⟩
      obtain ⟨k, hk, z⟩ := z
      rw [show k = 0 by omega] at z
      exact z
    | succ K ih =>
      intro hb
      obtain ⟨s1, a1, a2, a3, a4⟩ := ih (by omega)
      have hv := V (K + 1)
      have hex := hK (K + 1)
      obtain ⟨p1, p2, p3, p4⟩ := oT_ok hA hv.1 hv.2.1 hv.2.2.1 hv.2.2.2
      obtain ⟨d1, d2, d3, d4⟩ := (dn_ac _ p2 n _ _ hv.1 hv.2.1).2 hex
      have h10 : (itD (nxD C) (r, c, oT C r c (fsR C r c)) (K + 1)).1 < 10 := by have := hv.1; omega
      have c10 : (itD (nxD C) (r, c, oT C r c (fsR C r c)) (K + 1)).2.1 < 10 := by have := hv.2.1; omega
      have lt := cdS_lt h10 c10 hv.2.2.1
      have nz : xIA s1 38 ((itD (nxD C) (r, c, oT C r c (fsR C r c)) (K + 1)).1 * 10 + (itD (nxD C) (r, c, oT C r c (fsR C r c)) (K + 1)).2.1) = iI 0 := by
        rw [a4.2 _ (fun z => ?_)]
        · exact nZ (K + 1)
        · obtain ⟨k, hk, z⟩ := z
          exact b4 k (K + 1) (by omega) (by omega) z.symm
      obtain ⟨q1, q2, q3⟩ := sd_ps _ p2
      have hst := g_step (a2.1.G hG) (rt_kK h a3) hp hv.1 hv.2.1 (m := m) (i := i) (j := j) (zd := (cdS (itD (nxD C) (r, c, oT C r c (fsR C r c)) (K + 1)).1 (itD (nxD C) (r, c, oT C r c (fsR C r c)) (K + 1)).2.1 (itD (nxD C) (r, c, oT C r c (fsR C r c)) (K + 1)).2.2 : Nat)) nz (by omega) p2 p3 (fun z => p1 (cdS_inj h10 c10 p2 hv.2.2.1 (Int.ofNat.inj z))) (fun k hk => by
        cases hq : sH C (itD (nxD C) (r, c, oT C r c (fsR C r c)) (K + 1)).1 (itD (nxD C) (r, c, oT C r c (fsR C r c)) (K + 1)).2.1 (sdK k) with
        | false => exact Or.inr rfl
        | true =>
          rcases p4 _ (sdK_lt k (by omega)) hq with z | z
          · exact Or.inl (by rw [z])
          · have := q3 k (by omega) z; omega)
      rw [d2, d3, ← cd_mv hv.1 hv.2.1 p2 hex] at hst
      obtain ⟨k1, k2, k3, k4, k5⟩ := nS2_ok s1 ((itD (nxD C) (r, c, oT C r c (fsR C r c)) (K + 1)).1, (itD (nxD C) (r, c, oT C r c (fsR C r c)) (K + 1)).2.1, 0) (oT C (itD (nxD C) (r, c, oT C r c (fsR C r c)) (K + 1)).1 (itD (nxD C) (r, c, oT C r c (fsR C r c)) (K + 1)).2.1 (itD (nxD C) (r, c, oT C r c (fsR C r c)) (K + 1)).2.2)
      refine ⟨_, a1.trans hst, a2.tr k1, a3.tr k2, mrkR_cg (mrkR_tr a4 k3) (fun u => ⟨?_, ?_⟩)⟩
      · rintro (⟨k, hk, z⟩ | z)
        · exact ⟨k, by omega, z⟩
        · exact ⟨K + 1, by omega, z⟩
      · rintro ⟨k, hk, z⟩
        by_cases e : k = K + 1
        · rw [e] at z; exact Or.inr z
        · exact Or.inl ⟨k, by omega, z⟩
  obtain ⟨s1, a1, a2, a3, a4⟩ := run (b - 1) (by omega)
  rw [show b - 1 + 1 = b by omega, b3] at a1
  rw [show b - 1 + 1 = b by omega] at a4
  have sn : ¬ xIA s1 38 (r * 10 + c) = iI 0 := by
    rw [a4.1 (r * 10 + c) ⟨0, by omega, rfl⟩]; decide
  refine ⟨s1, _, _, _, a1.trans (g_seen (r := r) (c := c) (a2.1.G hG) (by omega) (by omega) sn), a2, a3, mrkR_cg a4 (fun u => ?_)⟩
  have rs := ring_set L hx (Z := fun _ => False) (fun _ _ _ z => z) hK b1 b3 u
  exact ⟨fun z => (rs.mp (Or.inr z)).resolve_left id, fun z => (rs.mpr (Or.inr z)).resolve_left id⟩
end XLOP7
