/-! ===== NUMBERS, 13 (own work): the class's number of a table, and the table of a number ===== -/
def crow (n : Nat) (C : Nat → Nat → Int) (i : Nat) : Nat := vOf (fun c => (C i (c + 1) - C i c).toNat) n
section XCROW
variable {n : Nat} {C : Nat → Nat → Int}
theorem crow_u (h : asm n C) {i : Nat} (hi : i ≤ n) : ∀ k, k < n → (C i (k + 1) - C i k).toNat ≤ 1 := fun k hk => by have := h.2.2.2.2.2 i k hi hk; omega
theorem crow_lt (h : asm n C) {i : Nat} (hi : i ≤ n) : crow n C i < 2 ^ n := vOf_lt (crow_u h hi)
theorem crow_bt (h : asm n C) {i k : Nat} (hi : i ≤ n) (hk : k < n) : bt n (crow n C i) k = C i (k + 1) - C i k := by
  unfold bt crow
  rw [vOf_digit (crow_u h hi) hk]
  have := h.2.2.2.2.2 i k hi hk
  omega
theorem crow_sum (h : asm n C) {i : Nat} (hi : i ≤ n) : ∀ c, c ≤ n → sumF (bt n (crow n C i)) c = C i c := by
  intro c
  induction c with
  | zero => intro _; rw [h.2.1 i hi]; rfl
  | succ c ih =>
    intro hc
    show sumF (bt n (crow n C i)) c + bt n (crow n C i) c = _
    rw [ih (by omega), crow_bt h hi (by omega)]; omega
theorem crow_pop (h : asm n C) {i : Nat} (hi : i ≤ n) : pop n (crow n C i) = i := by
  have h1 := pref_pop n _ (crow_lt h hi)
  rw [crow_sum h hi n (Nat.le_refl _), h.2.2.2.1 i hi] at h1
  omega
theorem crow_full (h : asm n C) {i : Nat} (hi : i < n) : crow n C i < 2 ^ n - 1 := by
  have h1 := crow_lt h (Nat.le_of_lt hi)
  have h2 := crow_pop h (Nat.le_of_lt hi)
  have h3 : ¬ crow n C i = 2 ^ n - 1 := fun q => by have := (pop_full n _ h1).mpr q; omega
  omega
theorem crow_row (h : asm n C) {i : Nat} (hi : i ≤ n) : ∀ k, k ≤ n → rowB C i k = ((vOf (fun c => (C i (c + 1) - C i c).toNat) k : Nat) : Int) := by
  intro k
  induction k with
  | zero => intro _; rfl
  | succ k ih =>
    intro hk
    show 2 * rowB C i k + (C i (k + 1) - C i k) = ((2 * vOf _ k + (C i (k + 1) - C i k).toNat : Nat) : Int)
    have := h.2.2.2.2.2 i k hi (by omega)
    rw [ih (by omega)]; omega
theorem crow_zero (h : asm n C) : crow n C 0 = 0 := by
  have z : ∀ k, k ≤ n → rowB C 0 k = 0 := by
    intro k
    induction k with
    | zero => intro _; rfl
    | succ k ih =>
      intro hk
      show 2 * rowB C 0 k + (C 0 (k + 1) - C 0 k) = 0
      rw [ih (by omega), h.1 _ hk, h.1 _ (by omega)]; rfl
  have h1 := crow_row h (Nat.zero_le n) n (Nat.le_refl _)
  rw [z n (Nat.le_refl _)] at h1
  unfold crow
  omega
end XCROW
/-- the ways before row i+1, and the number -/
def wayB (n a r : Nat) : Nat := (((fl n a 0).takeWhile (fun x => decide (r < x))).map (wy n)).sum
def numC (n : Nat) (C : Nat → Nat → Int) (k : Nat) : Nat := sumN (fun i => wayB n (crow n C i) (crow n C (i + 1))) k
section XNUM13
variable {w : XW} {n : Nat} {C : Nat → Nat → Int} {a : Nat}
theorem u_before2 (hG : XG w) (hn : 1 ≤ n ∧ n ≤ 10) (h10 : xIA w 10 0 = iI 0) (hC : CW w n) {r row : Nat} (ha : r < 2 ^ n - 1) (hrow : row < 2 ^ n) {z za zr : Int} (hz : z = n ∧ za = r ∧ zr = row) : ∃ w', xm U_waysBefore 0 [.ref 6, .int (iI z), .int (iI za), .int (iI zr)] w = some (.long (lI (wayB n r row : Nat)), w') ∧ xFr wS w w' ∧ xIA w' 10 0 = iI 0 := by
  obtain ⟨w', k1, k2⟩ := u_before hG hn h10 ha hrow hz
  refine ⟨w', ?_, k2⟩
  rw [k1]
  congr 3
  unfold wayB
  rw [← lsum_lI]
  congr 1
  exact List.map_congr_left (fun x hx => hC x (fl_lt n r 0 x ((List.takeWhile_prefix _).subset hx)))
theorem CW_fr {w' : XW} {S : Nat → Bool} (h : CW w n) (f : xFr S w w') (hS : S 7 = false) : CW w' n := fun v hv => by rw [f.l (by decide) hS]; exact h v hv
theorem nbI_wS {w' : XW} (h : nbI w) (f : xFr wS w w') (h10 : xIA w' 10 0 = iI 0) : nbI w' := by
  refine ⟨fun k h1 h2 => ?_, h10⟩
  rcases h.1 k h1 h2 with q | ⟨q1, q2⟩
  · exact Or.inl (by rw [f.a (by decide) (by decide)]; exact q)
  · exact Or.inr ⟨by rw [f.a (by decide) (by decide)]; exact q1, CW_fr q2 f (by decide)⟩
theorem u_number (h : tb w a n C) (hI : nbI w) (ha : 18 ≤ a) : ∃ w', xm U_numberOf 0 [.ref 6, .ref a] w = some (.long (lI (numC n C n : Nat)), w') ∧ xFr nS w w' ∧ nbI w' := by
  have hl := h.1.lt
  have p10 : (2 : Nat) ^ n ≤ 1024 := Nat.le_trans (Nat.pow_le_pow_right (by decide) h.2.2.1.2) (by decide)
  have nSa : ∀ q, 13 ≤ q → nS q = false := fun q hq => by
    simp only [nS, Bool.and_eq_false_iff, decide_eq_false_iff_not]; omega
  have ha5 := h.2.2.2.2.1
  have hnn := h.2.2.1
  obtain ⟨w1, l1, l2, l3, l4⟩ := u_learn h.2.1 hI h.2.2.1 (z := (n : Int)) rfl
  rw [e_U_numberOf, q_U_numberOf_0, h.2.2.2.1]
  have lp := x_loop (fun (k : Nat) (s : XW) (u : Option Value) => xr U_numberOf 0 18 [some (.ref 6), some (.ref a), some (.int (iI (n : Int))), some (.long (lI (numC n C k : Nat))), some (.retAddr 7), some (.int (iI (crow n C k : Nat))), some (.int (iI ((k : Int) + 1))), u] [] (0, 0) s) n
    (fun _ s => xFr nS w s ∧ nbI s ∧ CW s n) (fun o => ∃ w', o = some (.long (lI (numC n C n : Nat)), w') ∧ xFr nS w w' ∧ nbI w') (fun k s u hk hp => ?_) (fun s u hp => ⟨s, ?_, hp.1, hp.2.1⟩) w1 none ⟨l2, l3, l4⟩
  · obtain ⟨w', k1, k2⟩ := lp
    refine ⟨w', s_g (T_ok h.1) (s_g rfl (s_V l1 ?_)), k2⟩
    rw [crow_zero ha5] at k1
    exact k1
  · obtain ⟨f, hI1, hC1⟩ := hp
    have hb := h.fr f (nSa a (by omega)) (nSa _ (by omega))
    obtain ⟨s1, b1, b2, b3⟩ := u_before2 hb.2.1 h.2.2.1 hI1.2 hC1 (crow_full ha5 hk) (crow_lt ha5 (i := k + 1) (by omega)) (z := (n : Int)) (za := (crow n C k : Nat)) (zr := (crow n C (k + 1) : Nat)) ⟨rfl, rfl, rfl⟩
    refine Or.inr ⟨s1, some (.int (iI (crow n C (k + 1) : Nat))), ?_, f.tr (wS_nS b2), nbI_wS hI1 b2 b3, CW_fr hC1 b2 (by decide)⟩
    show xr U_numberOf 0 18 _ [] (0, 0) s = _
    rw [q_U_numberOf_18]
    have hr := m_rowBits hb (zi := (k : Int) + 1) (k + 1) (by omega)
    rw [crow_row ha5 (by omega) n (Nat.le_refl _)] at hr
    refine s_ltf (by omega) (s_g (T_rv h.1) (s_I hr (s_g rfl (s_J b1 ?_))))
    rw [lI_add, iI_add, ← Int.natCast_add]
    rfl
  · show xr U_numberOf 0 18 _ [] (0, 0) s = _
    rw [q_U_numberOf_18]
    refine s_ltt (by omega) ?_
    rw [q_U_numberOf_54]
theorem u_pass (hn : 1 ≤ n ∧ n ≤ 10) (hC : CW w n) {r N : Nat} (hr : r < 2 ^ n - 1) (h10 : xIA w 10 0 = iI 0) (hk : wkF w n r (fl n r 0)) (hN : N < ((fl n r 0).map (wy n)).sum) (hNb : (N : Int) < 9223372036854775808) {z : Int} (hz : z = n) : ∃ w' F', xm U_passWays 0 [.ref 6, .int (iI z), .long (lI (N : Nat))] w = some (.long (lI ((N : Int) - (sel n (fl n r 0) N).2)), w') ∧ xFr wS w w' ∧ xIA w' 10 0 = iI 0 ∧ wkF w' n r ((sel n (fl n r 0) N).1 :: F') := by
  subst hz
  have p10 : (2 : Nat) ^ n ≤ 1024 := Nat.le_trans (Nat.pow_le_pow_right (by decide) hn.2) (by decide)
  have lp : ∀ (F : List Nat) (k : Nat) (t : XW) (m : Nat) (u8 u9 : Option Value), k + F.length ≤ 2 ^ n → (∀ x ∈ F, x < 2 ^ n) → xFr wS w t → xIA t 10 0 = iI 0 → wkF t n r F → m < (F.map (wy n)).sum → m ≤ N → ∃ w' F', xr U_passWays 0 11 [some (.ref 6), some (.int (iI (n : Int))), some (.long (lI (N : Nat))), some (.retAddr 7), some (.int (iI ((2 ^ n : Nat) : Int))), some (.long (lI ((N : Int) - m))), some (.retAddr 7), some (.int (iI k)), u8, u9] [] (0, 0) t = some (.long (lI ((N : Int) - (sel n F m).2)), w') ∧ xFr wS w w' ∧ xIA w' 10 0 = iI 0 ∧ wkF w' n r ((sel n F m).1 :: F') := by
    intro F
    induction F with
    | nil => intro k t m u8 u9 _ _ _ _ _ h; exact absurd h (Nat.not_lt_zero _)
    | cons x F ih =>
      intro k t m u8 u9 hk hlt ft t10 hw hm hmN
      have hk' : k + (F.length + 1) ≤ 2 ^ n := hk
      have hx := hlt x List.mem_cons_self
      have hm' : m < wy n x + (F.map (wy n)).sum := hm
      have wb := wy_bd hn.1 (by omega) hx
      obtain ⟨hb, hGt⟩ := kf_head hw
      have va : xLA t 7 (2 ^ n + x) = lI (wy n x : Nat) := by rw [ft.l (by decide) (by decide)]; exact hC x hx
      have ix : (iI ((2 ^ n : Nat) : Int) + iI (x : Int)).toNatClampNeg = 2 ^ n + x := by rw [iI_add, iI_nat (by omega)]; omega
      have pre : ∀ o, (if lg_cmp (lI (m : Nat)) (lI (wy n x : Nat)) < 0 then xr U_passWays 0 71 [some (.ref 6), some (.int (iI (n : Int))), some (.long (lI (N : Nat))), some (.retAddr 7), some (.int (iI ((2 ^ n : Nat) : Int))), some (.long (lI ((N : Int) - m))), some (.retAddr 7), some (.int (iI k)), some (.long (lI (wy n x : Nat))), some (.retAddr 7)] [] (0, 0) t else xg (xok 6 3) (xo (xRF t 6 2) (fun q_3 => xg (xrv (.ref q_3) 4) (xbI (xm K_advance 0 [.ref q_3] t) (fun r_5 w_4 => if r_5 = 0 then xr U_passWays 0 71 [some (.ref 6), some (.int (iI (n : Int))), some (.long (lI (N : Nat))), some (.retAddr 7), some (.int (iI ((2 ^ n : Nat) : Int))), some (.long (lI ((N : Int) - m))), some (.retAddr 7), some (.int (iI k)), some (.long (lI (wy n x : Nat))), some (.retAddr 7)] [] (0, 0) w_4 else xr U_passWays 0 58 [some (.ref 6), some (.int (iI (n : Int))), some (.long (lI (N : Nat))), some (.retAddr 7), some (.int (iI ((2 ^ n : Nat) : Int))), some (.long (lI ((N : Int) - m))), some (.retAddr 7), some (.int (iI k)), some (.long (lI (wy n x : Nat))), some (.retAddr 7)] [] (0, 0) w_4))))) = o → xr U_passWays 0 11 [some (.ref 6), some (.int (iI (n : Int))), some (.long (lI (N : Nat))), some (.retAddr 7), some (.int (iI ((2 ^ n : Nat) : Int))), some (.long (lI ((N : Int) - m))), some (.retAddr 7), some (.int (iI k)), u8, u9] [] (0, 0) t = o := by
        intro o ho
        rw [q_U_passWays_11]
        refine s_lef (by omega) (s_g rfl (s_o (hGt.r (by decide) rfl) (s_g rfl (s_o (hGt.r (by decide) rfl) (s_g rfl ?_)))))
        rw [hb]
        refine s_g (by rw [iI_add]; exact xin_t (n := 2048) (by omega)) ?_
        rw [ix, va, lI_sub, show (N : Int) - ((N : Int) - m) = (m : Nat) by omega]
        exact ho
      by_cases q : m < wy n x
      · have e : sel n (x :: F) m = (x, m) := by unfold sel; rw [if_pos q]
        rw [e]
        refine ⟨t, F, pre _ (s_t ((lg_cmp_lt _ _).mpr ((lI_lt (by omega) (by omega)).mpr (by omega))) ?_), ft, t10, hw⟩
        rw [q_U_passWays_71]
      · have e : sel n (x :: F) m = sel n F (m - wy n x) := by rw [sel, if_neg q]
        rw [e]
        obtain ⟨t1, a1, a2, a3, a4⟩ := kf_adv hn hr t10 hw
        have hF : F ≠ [] := fun z => by rw [z] at hm'; have : m < wy n x + 0 := hm'; omega
        obtain ⟨w', F', b1, b2⟩ := ih (k + 1) t1 (m - wy n x) (some (.long (lI (wy n x : Nat)))) (some (.retAddr 7)) (by omega) (fun q hq => hlt q (List.mem_cons_of_mem _ hq)) (ft.tr a2) a3 (a4 hF) (by omega) (by omega)
        refine ⟨w', F', pre _ (s_f (fun y => q (by have := (lI_lt (by omega) (by omega)).mp ((lg_cmp_lt _ _).mp y); omega)) (s_g rfl (s_o (hGt.r (by decide) rfl) (s_g rfl (s_I a1 (s_bt ?_ ?_)))))), b2⟩
        · cases F with
          | nil => exact absurd rfl hF
          | cons y F => rfl
        · rw [q_U_passWays_58, lI_add, iI_add, show (N : Int) - m + (wy n x : Nat) = (N : Int) - ((m - wy n x : Nat) : Int) by omega]
          exact b1
  rw [e_U_passWays, q_U_passWays_0, iI_pow (by omega)]
  have := lp (fl n r 0) 0 w N none none (by have := fl_len n r 0; omega) (fun x hx => fl_lt n r 0 x hx) (xFr.rf _ _) h10 hk hN (Nat.le_refl _)
  rw [Int.sub_self] at this
  exact this
def bS (a q : Nat) : Bool := nS q || q == a || q == a + 1
theorem u_build (hG : XG w) (hT : isT a) (ha : a = 2 ∨ 18 ≤ a) (hI : nbI w) (hz : zr w a) (hn : 1 ≤ n ∧ n ≤ 10) {N : Nat} (hN : N < wy n 0) {z : Int} (hzn : z = n) : ∃ w', xm U_build 0 [.ref 6, .ref a, .int (iI z), .long (lI (N : Nat))] w = some (.null, w') ∧ xFr (bS a) w w' ∧ nbI w' ∧ tb w' a n (buC n N) ∧ zr w' a := by
  subst hzn
  have hl := hT.lt
  have p10 : (2 : Nat) ^ n ≤ 1024 := Nat.le_trans (Nat.pow_le_pow_right (by decide) hn.2) (by decide)
  have pp := pow_pos2 n
  have bSn : ∀ q, bS a q = false ↔ ¬ (7 ≤ q ∧ q ≤ 12) ∧ q ≠ a ∧ q ≠ a + 1 := fun q => by
    simp only [bS, nS, Bool.or_eq_false_iff, Bool.and_eq_false_iff, decide_eq_false_iff_not, beq_eq_false_iff_ne]; omega
  have wk1 : ∀ {t t' : XW}, xFr nS t t' → xFr (bS a) t t' := fun f => f.wk (fun q _ hq => by unfold bS; rw [hq]; rfl)
  have wk2 : ∀ {t t' : XW}, xFr (fun q => q == a + 1) t t' → xFr (bS a) t t' := fun f => f.wk (fun q _ hq => by unfold bS; rw [hq, Bool.or_true])
  have nSa : ∀ q, q < 7 ∨ 13 ≤ q → nS q = false := fun q hq => by
    simp only [nS, Bool.and_eq_false_iff, decide_eq_false_iff_not]; omega
  have wSa : ∀ q, q < 7 ∨ 13 ≤ q → wS q = false := fun q hq => by
    simp only [wS, Bool.and_eq_false_iff, decide_eq_false_iff_not]; omega
  obtain ⟨w1, l1, l2, l3, l4⟩ := u_learn hG hI hn (z := (n : Int)) rfl
  have f0 : xFr (fun q => q == a) w1 (xpF w1 a 1 (iI (n : Int))) := fr_pF (beq_self_eq_true _)
  have na : ∀ q, 7 ≤ q ∧ q ≤ 12 → (q == a) = false := fun q hq => by rw [beq_eq_false_iff_ne]; omega
  have na1 : ∀ q, 7 ≤ q ∧ q ≤ 12 → (q == a + 1) = false := fun q hq => by rw [beq_eq_false_iff_ne]; omega
  rw [e_U_build, q_U_build_0]
  have lp := x_loop (fun (k : Nat) (s : XW) (_ : Unit) => xr U_build 0 19 [some (.ref 6), some (.ref a), some (.int (iI (n : Int))), some (.long (lI (N : Nat))), some (.retAddr 7), some (.long (lI ((rsq n N k).2 : Nat))), some (.retAddr 7), some (.int (iI ((rsq n N k).1 : Nat))), some (.int (iI ((k : Int) + 1)))] [] (0, 0) s) n
    (fun k s => xFr (bS a) w s ∧ nbI s ∧ CW s n ∧ xIF s a 1 = iI n ∧ zr s a ∧ ∀ i c, 1 ≤ i → i ≤ k → c ≤ n → xIA s (a + 1) (i * 11 + c) = iI (buC n N i c)) (fun o => ∃ w', o = some (.null, w') ∧ xFr (bS a) w w' ∧ nbI w' ∧ tb w' a n (buC n N) ∧ zr w' a) (fun k s u hk hp => ?_) (fun s u hp => ⟨s, ?_, hp.1, hp.2.1, ⟨hT, hp.1.G hG, hn, hp.2.2.2.1, asm_bu hn.1 hN, fun i j hi hj => ?_⟩, hp.2.2.2.2.1⟩) (xpF w1 a 1 (iI (n : Int))) () ⟨(wk1 l2).tr (fr_pF (by unfold bS; rw [beq_self_eq_true, Bool.or_true]; rfl)), nbI_fr l3 f0 (fun q _ _ => na q (by omega)), CW_fr l4 f0 (na 7 (by decide)), by rw [f_pF, if_pos rfl, if_pos rfl], fun k hk => by rw [a_pF, l2.a (by omega) (nSa _ (by omega))]; exact hz k hk, fun i c h1 h2 => by omega⟩
  · obtain ⟨w', k1, k2⟩ := lp
    exact ⟨w', s_g rfl (s_V l1 (s_g (T_ok hT) k1)), k2⟩
  · obtain ⟨f, hI1, hC1, hf, hz1, hrows⟩ := hp
    obtain ⟨r1, r2, r3⟩ := rsq_ok hn.1 hN k (by omega)
    have hne : ¬ (rsq n N k).1 = 2 ^ n - 1 := fun q => by have := (pop_full n _ r1).mpr q; omega
    have r3' := r3
    rw [wy_eq r1, if_neg hne] at r3'
    have hG1 := f.G hG
    have wb := wy_bd hn.1 (by omega) r1
    obtain ⟨s1, a1, a2, a3, a4⟩ := kf_start hG1 hn hI1.2 (a := (rsq n N k).1) (by omega) (z := (n : Int)) (za := ((rsq n N k).1 : Nat)) ⟨rfl, rfl⟩
    obtain ⟨s2, F', b1, b2, b3, b4⟩ := u_pass hn (CW_fr hC1 a2 (by decide)) (by omega) a3 a4 r3' (by omega) (z := (n : Int)) rfl
    obtain ⟨b5, b6⟩ := kf_head b4
    have e1 : sel n (fl n (rsq n N k).1 0) (rsq n N k).2 = rsq n N (k + 1) := rfl
    rw [e1] at b1 b4 b5
    have g2 := a2.tr b2
    obtain ⟨t1, t2, t3⟩ := rsq_ok hn.1 hN (k + 1) (by omega)
    obtain ⟨s3, c1, c2, c3⟩ := m_layRow b6 hT hn (by rw [g2.f (by omega) (wSa _ (by omega))]; exact hf) (zi := (k : Int) + 1) (k + 1) (rsq n N (k + 1)).1 (by omega) (by omega)
    have hI2 := nbI_wS hI1 g2 b3
    have z2 : zr s2 a := hz1.fr hT g2 (wSa _ (by omega))
    refine Or.inr ⟨s3, (), ?_, (f.tr (wk1 (wS_nS g2))).tr (wk2 c2), nbI_fr hI2 c2 (fun q _ _ => na1 q (by omega)), CW_fr (CW_fr hC1 g2 (by decide)) c2 (na1 7 (by decide)), ?_, fun q hq => ?_, fun i c h1 h2 h3 => ?_⟩
    · show xr U_build 0 19 _ [] (0, 0) s = _
      rw [q_U_build_19]
      refine s_ltf (by omega) (s_g rfl (s_o (hG1.r (by decide) rfl) (s_g rfl (s_V a1 (s_g rfl (s_J b1 (s_g rfl (s_o (b6.r (by decide) rfl) (s_g rfl ?_)))))))))
      rw [b5]
      refine s_g (T_rv hT) (s_V c1 ?_)
      rw [lI_sub, iI_add, show ((rsq n N k).2 : Int) - (((rsq n N k).2 : Int) - ((rsq n N (k + 1)).2 : Nat)) = ((rsq n N (k + 1)).2 : Nat) by omega]
      rfl
    · rw [c2.f (by omega) (by rw [beq_eq_false_iff_ne]; omega), g2.f (by omega) (wSa _ (by omega))]; exact hf
    · rw [c3, c3, if_neg (by omega), if_neg (by omega)]; exact z2 q hq
    · rw [c3]
      by_cases e : i = k + 1
      · subst e
        by_cases ec : c = 0
        · rw [if_neg (by omega), ec, Nat.add_zero]
          exact (z2 (k + 1) (by omega)).2
        · rw [if_pos (by omega), show (k + 1) * 11 + c - (k + 1) * 11 = c by omega]; rfl
      · rw [if_neg (by omega), g2.a (by omega) (wSa _ (by omega))]
        exact hrows i c h1 (by omega) h3
  · show xr U_build 0 19 _ [] (0, 0) s = _
    rw [q_U_build_19]
    refine s_ltt (by omega) ?_
    rw [q_U_build_70]
  · by_cases e : i = 0
    · rw [e, Nat.zero_mul, Nat.zero_add, (asm_bu hn.1 hN).1 j hj]
      exact (hp.2.2.2.2.1 j (by omega)).1
    · exact hp.2.2.2.2.2 i j (by omega) hi hj
end XNUM13
