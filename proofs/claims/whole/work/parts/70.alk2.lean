/-! ===== ALIKE, 2 (own work): alike of the class ===== -/
def St (n : Nat) : Nat := [0, 0, 1, 3, 10, 52, 481].getD n 0
theorem st_ok : ∀ n, n < 6 → 1 ≤ n → xsi 3 n = St n ∧ xsi 3 (n + 1) = St (n + 1) ∧ (St (n + 1) : Int) = St n + xsl n ∧ St (n + 1) ≤ 481 := by decide
theorem st_mono : ∀ a, a < 6 → ∀ b, b < 7 → a < b → St (a + 1) ≤ St b := by decide
theorem st_wy {n : Nat} (h1 : 1 ≤ n) (h2 : n ≤ 5) : St (n + 1) = St n + wy n 0 := by
  have a := st_ok n (by omega) h1
  have b := wy_zero h1 (by omega)
  omega
def aS (q : Nat) : Bool := decide (q = 2 ∨ q = 3 ∨ (7 ≤ q ∧ q ≤ 17))
theorem aS_no {q : Nat} (h : ¬ (q = 2 ∨ q = 3 ∨ (7 ≤ q ∧ q ≤ 17))) : aS q = false := decide_eq_false h
theorem aS_yes {q : Nat} (h : q = 2 ∨ q = 3 ∨ (7 ≤ q ∧ q ≤ 17)) : aS q = true := decide_eq_true h
theorem IC_aS {w w' : XW} {A : AS} (h : IC w A) (f : xFr aS w w') (hz : zr w' 2) : IC w' A := by
  refine ⟨f.G h.1, fun q hq => ?_, hz, h.2.2.2.fr f (aS_no (by omega)) (aS_no (by omega))⟩
  exact ⟨(h.2.1 q hq).1.fr f (aS_no (by omega)) (aS_no (by omega)), (h.2.1 q hq).2.fr (isT_p hq) f (aS_no (by omega))⟩
theorem aS_oS {w w' : XW} (f : xFr oS w w') : xFr aS w w' := f.wk (fun q _ hq => by
  simp only [oS, Bool.or_eq_true, beq_iff_eq] at hq
  exact aS_yes (by omega))
theorem aS_bS {w w' : XW} (f : xFr (bS 2) w w') : xFr aS w w' := f.wk (fun q _ hq => by
  simp only [bS, nS, Bool.or_eq_true, Bool.and_eq_true, decide_eq_true_eq, beq_iff_eq] at hq
  exact aS_yes (by omega))
def jnI (w : XW) : Prop := ∀ n, 1 ≤ n → n ≤ 5 → xIA w 17 n = iI 0 ∨ (xIA w 17 n = iI 1 ∧ ∀ N, N < wy n 0 → xLA w 16 (St n + N) = lI (cod n (buC n N) : Nat))
theorem jnI_fr {w w' : XW} {S : Nat → Bool} (h : jnI w) (f : xFr S w w') (h1 : S 16 = false) (h2 : S 17 = false) : jnI w' := fun n a b => by
  rw [f.a (by decide) h2, f.l (by decide) h1]; exact h n a b
def o_alike (A : AS) (z : Int) : Int := if (0 ≤ z ∧ z < 8) ∧ A.1 z.toNat ≤ 5 then (sumN (fun N => if cod (A.1 z.toNat) (buC (A.1 z.toNat) N) = cod (A.1 z.toNat) (A.2.1 z.toNat) then 1 else 0) (wy (A.1 z.toNat) 0) : Nat) else -1
section XALK2
variable {w : XW} {A : AS} {n : Nat}
theorem g_knows (hG : XG w) (hn : 1 ≤ n ∧ n ≤ 5) {b : Bool} (hb : xIA w 17 n = bI b) : xm G_knows 0 [.ref 15, .int (iI (n : Int))] w = some (.int (bI b), w) := by
  rw [e_G_knows, q_G_knows_0]
  refine s_g rfl (s_o (hG.r (by decide) rfl) (s_g (xin_t (n := 6) (by omega)) ?_))
  rw [iI_natk n (by omega), hb, xbz_b]
theorem g_learn (hG : XG w) (hn : 1 ≤ n ∧ n ≤ 5) {N : Nat} (hN : N < wy n 0) {zN : Int} (hz : zN = N) (v : Int64) : xm G_learn 0 [.ref 15, .int (iI (n : Int)), .int (iI zN), .long v] w = some (.null, xpL w 16 (St n + N) v) := by
  subst hz
  obtain ⟨s1, s2, s3, s4⟩ := st_ok n (by omega) hn.1
  have s5 := st_wy hn.1 hn.2
  rw [e_G_learn, q_G_learn_0, iI_natk n (by omega), s1, iI_add]
  refine s_g rfl (s_o (hG.r (by decide) rfl) (s_g (xin_t (n := 7) (by omega)) (s_g (xin_t (n := 481) (by omega)) ?_)))
  rw [iI_nat (by omega), show ((St n : Int) + (N : Int)).toNat = St n + N by omega]
theorem g_finish (hG : XG w) (hn : 1 ≤ n ∧ n ≤ 5) : xm G_finish 0 [.ref 15, .int (iI (n : Int))] w = some (.null, xpI w 17 n (iI 1)) := by
  rw [e_G_finish, q_G_finish_0]
  refine s_g rfl (s_o (hG.r (by decide) rfl) (s_g (xin_t (n := 6) (by omega)) (s_g rfl ?_)))
  rw [iI_natk n (by omega)]
theorem g_howMany (hG : XG w) (hn : 1 ≤ n ∧ n ≤ 5) {c : Nat} (hc : c < 1099511627776) (hw : ∀ N, N < wy n 0 → xLA w 16 (St n + N) = lI (cod n (buC n N) : Nat)) : xm G_howMany 0 [.ref 15, .int (iI (n : Int)), .long (lI (c : Nat))] w = some (.int (iI (sumN (fun N => if cod n (buC n N) = c then 1 else 0) (wy n 0) : Nat)), w) := by
  obtain ⟨s1, s2, s3, s4⟩ := st_ok n (by omega) hn.1
  have s5 := st_wy hn.1 hn.2
  have i1 : (iI (n : Int) + iI 1).toNatClampNeg = n + 1 := by rw [iI_add, iI_nat (by omega)]; omega
  have x1 : xin (iI (n : Int) + iI 1) (xsiN 3) = true := by rw [iI_add]; exact xin_t (n := 7) (by omega)
  rw [e_G_howMany, q_G_howMany_0, iI_natk n (by omega), s1]
  refine s_g (xin_t (n := 7) (by omega)) ?_
  have lp := x_loop (fun (N : Nat) (_ : Unit) (_ : Unit) => xr G_howMany 0 10 [some (.ref 15), some (.int (iI (n : Int))), some (.long (lI (c : Nat))), some (.retAddr 7), some (.int (iI (sumN (fun N => if cod n (buC n N) = c then 1 else 0) N : Nat))), some (.int (iI ((St n : Int) + N)))] [] (0, 0) w) (wy n 0)
    (fun _ _ => True) (fun o => o = some (.int (iI (sumN (fun N => if cod n (buC n N) = c then 1 else 0) (wy n 0) : Nat)), w)) (fun N s u hN _ => Or.inr ⟨(), (), ?_, trivial⟩) (fun s u _ => ?_) () () trivial
  · have r' : xr G_howMany 0 10 [some (.ref 15), some (.int (iI (n : Int))), some (.long (lI (c : Nat))), some (.retAddr 7), some (.int (iI ((0 : Nat) : Int))), some (.int (iI ((St n : Int) + (0 : Nat))))] [] (0, 0) w = some (.int (iI (sumN (fun N => if cod n (buC n N) = c then 1 else 0) (wy n 0) : Nat)), w) := lp
    rw [show (St n : Int) + ((0 : Nat) : Int) = (St n : Int) by omega] at r'
    exact r'
  · show xr G_howMany 0 10 _ [] (0, 0) w = _
    have cb := cod_lt (asm_bu (n := n) hn.1 hN) hn.2
    rw [q_G_howMany_10, i1, s2]
    refine s_g x1 (s_lef (by omega) (s_g rfl (s_o (hG.r (by decide) rfl) (s_g (xin_t (n := 481) (by omega)) ?_))))
    rw [iI_nat (by omega), show ((St n : Int) + (N : Int)).toNat = St n + N by omega, hw N hN]
    by_cases q : cod n (buC n N) = c
    · refine s_t ((lg_cmp_eq _ _).mpr (by rw [q])) ?_
      rw [q_G_howMany_37, iI_add, iI_add, show sumN (fun N => if cod n (buC n N) = c then 1 else 0) (N + 1) = sumN (fun N => if cod n (buC n N) = c then 1 else 0) N + (if cod n (buC n N) = c then 1 else 0) from rfl, if_pos q, show (St n : Int) + N + 1 = (St n : Int) + ((N + 1 : Nat) : Int) by omega]; rfl
    · refine s_f (fun z => q ?_) ?_
      · have := (lI_eq (by omega) (by omega)).mp ((lg_cmp_eq _ _).mp z)
        omega
      · rw [q_G_howMany_37, iI_add, show sumN (fun N => if cod n (buC n N) = c then 1 else 0) (N + 1) = sumN (fun N => if cod n (buC n N) = c then 1 else 0) N + (if cod n (buC n N) = c then 1 else 0) from rfl, if_neg q, show (St n : Int) + N + 1 = (St n : Int) + ((N + 1 : Nat) : Int) by omega]; rfl
  · show xr G_howMany 0 10 _ [] (0, 0) w = _
    rw [q_G_howMany_10, i1, s2]
    refine s_g x1 (s_let (by omega) ?_)
    rw [q_G_howMany_43]
theorem c_learn (hG : XG w) (hz : zr w 2) (hI : nbI w) (hJ : jnI w) {B : Nat} (hP : lpI w B) (hB : B + 430 < 2147483648) (hn : 1 ≤ n ∧ n ≤ 5) : ∃ w', xm B_learnJoinings 0 [.ref 0, .int (iI (n : Int))] w = some (.null, w') ∧ xFr aS w w' ∧ zr w' 2 ∧ nbI w' ∧ jnI w' ∧ lpI w' (B + 429) ∧ xIA w' 17 n = iI 1 := by
  obtain ⟨s1, s2, s3, s4⟩ := st_ok n (by omega) hn.1
  have s5 := st_wy hn.1 hn.2
  have wz := wy_zero (n := n) hn.1 (by omega)
  have xb : xsl n ≤ 429 := by
    have : ∀ n, n < 6 → xsl n ≤ 429 := by decide
    exact this n (by omega)
  rw [e_B_learnJoinings, q_B_learnJoinings_0]
  refine x_loop (fun (N : Nat) (s : XW) (_ : Unit) => xr B_learnJoinings 0 2 [some (.ref 0), some (.int (iI (n : Int))), some (.int (iI (N : Int)))] [] (0, 0) s) (wy n 0)
    (fun N s => xFr aS w s ∧ zr s 2 ∧ nbI s ∧ lpI s (B + N) ∧ xIA s 17 = xIA w 17 ∧ (∀ k, ¬ (St n ≤ k ∧ k < St (n + 1)) → xLA s 16 k = xLA w 16 k) ∧ ∀ N', N' < N → xLA s 16 (St n + N') = lI (cod n (buC n N') : Nat)) (fun o => ∃ w', o = some (.null, w') ∧ xFr aS w w' ∧ zr w' 2 ∧ nbI w' ∧ jnI w' ∧ lpI w' (B + 429) ∧ xIA w' 17 n = iI 1) (fun N s u hN hp => Or.inr ?_) (fun s u hp => ?_) w () ⟨xFr.rf _ _, hz, hI, hP, rfl, fun _ _ => rfl, fun _ h => by omega⟩
  · obtain ⟨p1, p2, p3, p4, p5, p6, p7⟩ := hp
    have hGs := p1.G hG
    obtain ⟨t1, a1, a2, a3, a4, a5⟩ := u_build hGs (Or.inl rfl) (Or.inl rfl) p3 p2 (n := n) (by omega) hN (z := (n : Int)) rfl
    have lp1 := lpI_fr p4 a2 (by decide) (by decide)
    obtain ⟨t2, b1, b2, b3⟩ := l_joining a4 hn.2 lp1 (by omega)
    have f2 : xFr aS w t2 := (p1.tr (aS_bS a2)).tr (aS_oS b3)
    have gl := g_learn (w := t2) (f2.G hG) hn hN (zN := (N : Int)) rfl (lI (cod n (buC n N) : Nat))
    have f3 : xFr (fun q => q == 16) t2 (xpL t2 16 (St n + N) (lI (cod n (buC n N) : Nat))) := fr_pL rfl
    refine ⟨xpL t2 16 (St n + N) (lI (cod n (buC n N) : Nat)), (), ?_, f2.tr (fr_pL (aS_yes (by omega))), ?_, ?_, ?_, ?_, fun k hk => ?_, fun N' hN' => ?_⟩
    · show xr B_learnJoinings 0 2 _ [] (0, 0) s = _
      rw [q_B_learnJoinings_2, iI_natk n (by omega), iI_64 (by omega)]
      refine s_g (xin_t (n := 14) (by omega)) (s_f (fun q => ?_) (s_g rfl (s_o (hGs.r (by decide) rfl) (s_g rfl (s_o (hGs.r (by decide) rfl) (s_g rfl (s_V a1 (s_g rfl (s_o ((a2.G hGs).r (by decide) rfl) (s_g rfl (s_o ((a2.G hGs).r (by decide) rfl) (s_g rfl (s_o ((a2.G hGs).r (by decide) rfl) (s_g rfl (s_J b1 (s_g rfl (s_V gl ?_)))))))))))))))))
      · have := (lI_le (by omega) (by omega)).mp ((lg_cmp_ge _ _).mp q)
        omega
      · rw [iI_add]; rfl
    · exact (a5.fr (Or.inl rfl) b3 (oS_no (by omega))).fr (Or.inl rfl) f3 rfl
    · exact nbI_fr (nbI_fr a3 b3 (fun q _ _ => oS_no (by omega))) f3 (fun q _ _ => by rw [beq_eq_false_iff_ne]; omega)
    · exact lpI_fr (lpI_mono b2 (by omega)) f3 rfl rfl
    · rw [f3.a (by decide) rfl, b3.a (by decide) rfl, a2.a (by decide) (by decide)]; exact p5
    · rw [l_pL, if_pos rfl, if_neg (by omega), b3.l (by decide) rfl, a2.l (by decide) (by decide)]; exact p6 k hk
    · rw [l_pL, if_pos rfl]
      by_cases e : N' = N
      · rw [if_pos (by omega), e]
      · rw [if_neg (by omega), b3.l (by decide) rfl, a2.l (by decide) (by decide)]; exact p7 N' (by omega)
  · obtain ⟨p1, p2, p3, p4, p5, p6, p7⟩ := hp
    have hGs := p1.G hG
    have f3 : xFr (fun q => q == 17) s (xpI s 17 n (iI 1)) := fr_pI rfl
    refine ⟨xpI s 17 n (iI 1), ?_, p1.tr (fr_pI (aS_yes (by omega))), p2.fr (Or.inl rfl) f3 rfl, nbI_fr p3 f3 (fun q _ _ => by rw [beq_eq_false_iff_ne]; omega), fun m hm1 hm2 => ?_, lpI_fr (lpI_mono p4 (by omega)) f3 rfl rfl, by rw [a_pI, if_pos rfl, if_pos rfl]⟩
    · show xr B_learnJoinings 0 2 _ [] (0, 0) s = _
      rw [q_B_learnJoinings_2, iI_natk n (by omega), iI_64 (by omega)]
      refine s_g (xin_t (n := 14) (by omega)) (s_t ((lg_cmp_ge _ _).mpr ((lI_le (by omega) (by omega)).mpr (by omega))) ?_)
      rw [q_B_learnJoinings_53]
      exact s_g rfl (s_o (hGs.r (by decide) rfl) (s_g rfl (s_V (g_finish hGs hn) rfl)))
    · by_cases e : m = n
      · subst e
        exact Or.inr ⟨by rw [a_pI, if_pos rfl, if_pos rfl], fun N hN => p7 N hN⟩
      · have sm := st_wy hm1 hm2
        have mo1 := st_mono m (by omega) n (by omega)
        have mo2 := st_mono n (by omega) m (by omega)
        rcases hJ m hm1 hm2 with q | ⟨q1, q2⟩
        · left; rw [a_pI, if_pos rfl, if_neg e, p5]; exact q
        · refine Or.inr ⟨by rw [a_pI, if_pos rfl, if_neg e, p5]; exact q1, fun N hN => ?_⟩
          show xLA s 16 (St m + N) = _
          rw [p6 _ (by omega)]; exact q2 N hN
theorem c_alike (h : IC w A) (hI : nbI w) (hJ : jnI w) {B : Nat} (hP : lpI w B) (hB : B + 430 < 2147483648) {z : Int} (hz : i32 z) : ∃ w', xm B_alike 0 [.ref 0, .int (iI z)] w = some (.int (iI (o_alike A z)), w') ∧ IC w' A ∧ nbI w' ∧ jnI w' ∧ lpI w' (B + 430) ∧ xFr aS w w' := by
  rw [e_B_alike, q_B_alike_0]
  unfold o_alike
  by_cases h1 : 0 ≤ z ∧ z < 8
  · have t := (h.2.1 z.toNat (by omega)).1
    have hn := t.2.2.1
    by_cases h2 : A.1 z.toNat ≤ 5
    · rw [if_pos ⟨h1, h2⟩]
      have fin : ∀ s, xFr aS w s → zr s 2 → nbI s → jnI s → lpI s (B + 429) → xIA s 17 (A.1 z.toNat) = iI 1 → ∃ w', xr B_alike 0 42 [some (.ref 0), some (.int (iI z)), some (.ref (18 + 2 * z.toNat))] [] (0, 0) s = some (.int (iI (sumN (fun N => if cod (A.1 z.toNat) (buC (A.1 z.toNat) N) = cod (A.1 z.toNat) (A.2.1 z.toNat) then 1 else 0) (wy (A.1 z.toNat) 0) : Nat)), w') ∧ IC w' A ∧ nbI w' ∧ jnI w' ∧ lpI w' (B + 430) ∧ xFr aS w w' := by
        intro s q1 q2 q3 q4 q5 q6
        have ts := t.fr q1 (aS_no (by omega)) (aS_no (by omega))
        obtain ⟨s1, b1, b2, b3⟩ := l_joining ts h2 q5 (by omega)
        have f1 := q1.tr (aS_oS b3)
        have j1 := jnI_fr q4 b3 rfl rfl
        have kn : ∀ N, N < wy (A.1 z.toNat) 0 → xLA s1 16 (St (A.1 z.toNat) + N) = lI (cod (A.1 z.toNat) (buC (A.1 z.toNat) N) : Nat) := by
          rcases j1 (A.1 z.toNat) hn.1 h2 with y | y
          · rw [b3.a (by decide) rfl, q6] at y; exact absurd y (by decide)
          · exact y.2
        have hm := g_howMany (f1.G h.1) ⟨hn.1, h2⟩ (cod_lt t.2.2.2.2.1 h2) kn
        refine ⟨s1, ?_, IC_aS h f1 (q2.fr (Or.inl rfl) b3 (oS_no (by omega))), nbI_fr q3 b3 (fun q _ _ => oS_no (by omega)), j1, b2, f1⟩
        rw [q_B_alike_42]
        refine s_g rfl (s_o ((q1.G h.1).r (by decide) rfl) (s_g rfl (s_de (s_g (T_ok t.1) (s_g rfl (s_o ((q1.G h.1).r (by decide) rfl) (s_g rfl (s_g rfl (s_g rfl (s_J b1 (s_g rfl ?_)))))))))))
        rw [ts.2.2.2.1]
        exact s_I hm rfl
      have step : ∀ o, xr B_alike 0 20 [some (.ref 0), some (.int (iI z)), some (.ref (18 + 2 * z.toNat))] [] (0, 0) w = o → xg (xrv (.ref 0) 6) (xbA (xm B_tableOf 0 [.ref 0, .int (iI z)] w) (fun r_2 w_1 => xg (xisr r_2) (xg (xisr r_2) (xnl r_2 (xr B_alike 0 18 [some (.ref 0), some (.int (iI z)), some r_2] [] (0, 0) w_1) (xg (xisr r_2) (xde r_2 (fun a_3 => xg (xok a_3 5) (if (xIF w_1 a_3 1) ≤ (iI 5) then xr B_alike 0 20 [some (.ref 0), some (.int (iI z)), some r_2] [] (0, 0) w_1 else xr B_alike 0 18 [some (.ref 0), some (.int (iI z)), some r_2] [] (0, 0) w_1)))))))) = o := fun o ho => by
        refine s_g rfl (s_A (c_tab h.1 z.toNat (by omega)) (s_g rfl (s_g rfl (s_nr (s_g rfl (s_de (s_g (T_ok t.1) ?_)))))))
        rw [t.2.2.2.1]
        exact s_let (by omega) ho
      rcases hJ (A.1 z.toNat) hn.1 h2 with y | y
      · obtain ⟨s, a1, a2, a3, a4, a5, a6, a7⟩ := c_learn h.1 h.2.2.1 hI hJ hP hB ⟨hn.1, h2⟩
        obtain ⟨w', k1, k2⟩ := fin s a2 a3 a4 a5 a6 a7
        refine ⟨w', step _ ?_, k2⟩
        rw [q_B_alike_20]
        refine s_g rfl (s_o (h.1.r (by decide) rfl) (s_g rfl (s_de (s_g (T_ok t.1) (s_g rfl ?_)))))
        rw [t.2.2.2.1]
        refine s_I (g_knows h.1 ⟨hn.1, h2⟩ (b := false) y) (s_bf rfl (s_g rfl (s_de (s_g (T_ok t.1) (s_g rfl ?_)))))
        rw [t.2.2.2.1]
        exact s_V a1 k1
      · obtain ⟨w', k1, k2⟩ := fin w (xFr.rf _ _) h.2.2.1 hI hJ (lpI_mono hP (by omega)) y.1
        refine ⟨w', step _ ?_, k2⟩
        rw [q_B_alike_20]
        refine s_g rfl (s_o (h.1.r (by decide) rfl) (s_g rfl (s_de (s_g (T_ok t.1) (s_g rfl ?_)))))
        rw [t.2.2.2.1]
        exact s_I (g_knows h.1 ⟨hn.1, h2⟩ (b := true) y.1) (s_bt rfl k1)
    · rw [if_neg (fun q => h2 q.2)]
      refine ⟨w, s_g rfl (s_A (c_tab h.1 z.toNat (by omega)) (s_g rfl (s_g rfl (s_nr (s_g rfl (s_de (s_g (T_ok t.1) ?_))))))), h, hI, hJ, lpI_mono hP (by omega), xFr.rf _ _⟩
      rw [t.2.2.2.1]
      refine s_lef (by omega) ?_
      rw [q_B_alike_18]
  · rw [if_neg (fun q => h1 q.1)]
    refine ⟨w, s_g rfl (s_An (c_tabN hz h1) (s_g rfl (s_g rfl (s_nn ?_)))), h, hI, hJ, lpI_mono hP (by omega), xFr.rf _ _⟩
    rw [q_B_alike_18]
end XALK2
