/-! ===== NUMBERS, 11 (own work): the walk as a list of rows; ways ahead, ways learnt ===== -/
def wkF (w : XW) (n a : Nat) (F : List Nat) : Prop := ∃ (cs : List Nat) (r : List (List Nat)), (cs :: r).map (vaL n) = F ∧ WK w n (lsL n a) (grL n (lsL n a)) cs ∧ chnE (advL (lsL n a) (grL n (lsL n a))) none (cs :: r)
theorem desc_len : ∀ (l : List Nat) (B : Nat), l.Pairwise (fun x y => y < x) → (∀ x ∈ l, x < B) → l.length ≤ B := by
  intro l
  induction l with
  | nil => intro B _ _; exact Nat.zero_le _
  | cons x l ih =>
    intro B hp hb
    have h1 := ih x (List.pairwise_cons.mp hp).2 (fun y hy => (List.pairwise_cons.mp hp).1 y hy)
    have h2 := hb x List.mem_cons_self
    show l.length + 1 ≤ B
    omega
theorem fl_len (m a h : Nat) : (fl m a h).length ≤ 2 ^ m := desc_len _ _ (fl_sorted m a h) (fun x hx => fl_lt m a h x hx)
section XWALK
variable {w : XW} {n : Nat}
theorem kf_start (hG : XG w) (hn : 1 ≤ n ∧ n ≤ 10) (h10 : xIA w 10 0 = iI 0) {a : Nat} (ha : a < 2 ^ n - 1) {z za : Int} (hz : z = n ∧ za = a) : ∃ w', xm K_start 0 [.ref 9, .int (iI z), .int (iI za)] w = some (.null, w') ∧ xFr wS w w' ∧ xIA w' 10 0 = iI 0 ∧ wkF w' n a (fl n a 0) := by
  obtain ⟨w', k1, k2, k3, k4⟩ := k_start hG hn h10 ha hz
  refine ⟨w', k1, k2, k3, ?_⟩
  have hck := chk_all hn.1 hn.2 ha
  unfold chkW at hck
  simp only [Bool.and_eq_true, decide_eq_true_eq, beq_iff_eq] at hck
  obtain ⟨⟨⟨hok, hfl⟩, -⟩, -⟩ := hck
  obtain ⟨r, h1, h2⟩ := en_chain (lsL n a) (grL n (lsL n a)) 0 hok (fun g _ => Nat.zero_le _)
  refine ⟨layL (lsL n a) 0, r, ?_, k4, ?_⟩
  · rw [← h1]; exact hfl
  · rw [← h1]; exact h2
theorem kf_head {a x : Nat} {F : List Nat} (h : wkF w n a (x :: F)) : xIF w 9 5 = iI (x : Nat) ∧ XG w := by
  obtain ⟨cs, r, h1, h2, h3⟩ := h
  cases h1
  exact ⟨h2.2.2.2.2.2.1, h2.1⟩
theorem kf_adv (hn : 1 ≤ n ∧ n ≤ 10) {a x : Nat} {F : List Nat} (ha : a < 2 ^ n - 1) (h10 : xIA w 10 0 = iI 0) (h : wkF w n a (x :: F)) : ∃ w', xm K_advance 0 [.ref 9] w = some (.int (bI (!F.isEmpty)), w') ∧ xFr wS w w' ∧ xIA w' 10 0 = iI 0 ∧ (F ≠ [] → wkF w' n a F) := by
  obtain ⟨cs, r, h1, h2, h3⟩ := h
  have hck := chk_all hn.1 hn.2 ha
  unfold chkW at hck
  simp only [Bool.and_eq_true, decide_eq_true_eq] at hck
  obtain ⟨⟨⟨hok, -⟩, -⟩, hgn0⟩ := hck
  obtain ⟨w', k1, k2, k3, k4⟩ := k_advance h2 hok (fun g hg => of_decide_eq_true (List.all_eq_true.mp hgn0 g hg))
  have h31 := h3.1
  cases r with
  | nil =>
    have hF : F = [] := by cases h1; rfl
    subst hF
    rw [show advL (lsL n a) (grL n (lsL n a)) cs = none from h31] at k1
    exact ⟨w', k1, k2, by rw [k3]; exact h10, fun q => absurd rfl q⟩
  | cons y r =>
    have hy : advL (lsL n a) (grL n (lsL n a)) cs = some y := h31
    have hF : F = (y :: r).map (vaL n) := by cases h1; rfl
    rw [hy] at k1
    refine ⟨w', ?_, k2, by rw [k3]; exact h10, fun _ => ⟨y, r, hF.symm, k4 y hy, h3.2⟩⟩
    rw [hF]; exact k1
/-- which cells the numbering writes -/
def nS (q : Nat) : Bool := decide (7 ≤ q) && decide (q ≤ 12)
theorem wS_nS {w' : XW} (f : xFr wS w w') : xFr nS w w' := f.wk (fun q _ hq => by
  simp only [wS, Bool.and_eq_true, decide_eq_true_eq] at hq
  simp only [nS, Bool.and_eq_true, decide_eq_true_eq]
  omega)
theorem u_before (hG : XG w) (hn : 1 ≤ n ∧ n ≤ 10) (h10 : xIA w 10 0 = iI 0) {a row : Nat} (ha : a < 2 ^ n - 1) (hrow : row < 2 ^ n) {z za zr : Int} (hz : z = n ∧ za = a ∧ zr = row) : ∃ w', xm U_waysBefore 0 [.ref 6, .int (iI z), .int (iI za), .int (iI zr)] w = some (.long (lsum (((fl n a 0).takeWhile (fun x => decide (row < x))).map (fun x => xLA w 7 (2 ^ n + x)))), w') ∧ xFr wS w w' ∧ xIA w' 10 0 = iI 0 := by
  obtain ⟨rfl, rfl, rfl⟩ := hz
  have p10 : (2 : Nat) ^ n ≤ 1024 := Nat.le_trans (Nat.pow_le_pow_right (by decide) hn.2) (by decide)
  obtain ⟨w1, s1, s2, s3, s4⟩ := kf_start hG hn h10 ha (z := (n : Int)) (za := (a : Int)) ⟨rfl, rfl⟩
  have lp : ∀ (F : List Nat) (k : Nat) (t : XW) (tot : Int64), F ≠ [] → k + F.length ≤ 2 ^ n → (∀ x ∈ F, x < 2 ^ n) → xFr wS w t → xIA t 10 0 = iI 0 → wkF t n a F → ∃ w', xr U_waysBefore 0 20 [some (.ref 6), some (.int (iI (n : Int))), some (.int (iI (a : Int))), some (.int (iI (row : Int))), some (.int (iI ((2 ^ n : Nat) : Int))), some (.long tot), some (.retAddr 7), some (.int (iI k))] [] (0, 0) t = some (.long (tot + lsum ((F.takeWhile (fun x => decide (row < x))).map (fun x => xLA w 7 (2 ^ n + x)))), w') ∧ xFr wS w w' ∧ xIA w' 10 0 = iI 0 := by
    intro F
    induction F with
    | nil => intro k t tot h; exact absurd rfl h
    | cons x F ih =>
      intro k t tot _ hk hlt ft t10 hw
      have hk' : k + (F.length + 1) ≤ 2 ^ n := hk
      have hx := hlt x List.mem_cons_self
      obtain ⟨hb, hGt⟩ := kf_head hw
      rw [q_U_waysBefore_20]
      by_cases hr : row < x
      · obtain ⟨w', a1, a2, a3, a4⟩ := kf_adv hn ha t10 hw
        have ra : xLA t 7 = xLA w 7 := ft.l (by decide) (by decide)
        have tw : (x :: F).takeWhile (fun x => decide (row < x)) = x :: F.takeWhile (fun x => decide (row < x)) := by rw [List.takeWhile_cons_of_pos (by exact decide_eq_true hr)]
        rw [tw]
        show ∃ w', _ = some (Value.long (tot + (xLA w 7 (2 ^ n + x) + lsum ((F.takeWhile (fun x => decide (row < x))).map (fun x => xLA w 7 (2 ^ n + x))))), w') ∧ _
        have pre : ∀ o, (if bI (!F.isEmpty) = 0 then xr U_waysBefore 0 77 [some (.ref 6), some (.int (iI (n : Int))), some (.int (iI (a : Int))), some (.int (iI (row : Int))), some (.int (iI ((2 ^ n : Nat) : Int))), some (.long (tot + xLA w 7 (2 ^ n + x))), some (.retAddr 7), some (.int (iI k))] [] (0, 0) w' else xr U_waysBefore 0 71 [some (.ref 6), some (.int (iI (n : Int))), some (.int (iI (a : Int))), some (.int (iI (row : Int))), some (.int (iI ((2 ^ n : Nat) : Int))), some (.long (tot + xLA w 7 (2 ^ n + x))), some (.retAddr 7), some (.int (iI k))] [] (0, 0) w') = o → (if iI ((2 ^ n : Nat) : Int) ≤ iI (k : Int) then xr U_waysBefore 0 77 [some (.ref 6), some (.int (iI (n : Int))), some (.int (iI (a : Int))), some (.int (iI (row : Int))), some (.int (iI ((2 ^ n : Nat) : Int))), some (.long tot), some (.retAddr 7), some (.int (iI k))] [] (0, 0) t else xg (xok 6 3) (xo (xRF t 6 2) (fun q_1 => xg (xok q_1 4) (if (xIF t q_1 5) ≤ iI (row : Int) then xr U_waysBefore 0 77 [some (.ref 6), some (.int (iI (n : Int))), some (.int (iI (a : Int))), some (.int (iI (row : Int))), some (.int (iI ((2 ^ n : Nat) : Int))), some (.long tot), some (.retAddr 7), some (.int (iI k))] [] (0, 0) t else xg (xok 6 3) (xo (xRF t 6 0) (fun q_2 => xg (xok 6 3) (xo (xRF t 6 2) (fun q_3 => xg (xok q_3 4) (xg (xoa t q_2 3 (iI ((2 ^ n : Nat) : Int) + (xIF t q_3 5))) (xg (xok 6 3) (xo (xRF t 6 2) (fun q_4 => xg (xrv (.ref q_4) 4) (xbI (xm K_advance 0 [.ref q_4] t) (fun r_6 w_5 => if r_6 = 0 then xr U_waysBefore 0 77 [some (.ref 6), some (.int (iI (n : Int))), some (.int (iI (a : Int))), some (.int (iI (row : Int))), some (.int (iI ((2 ^ n : Nat) : Int))), some (.long (tot + (xLA t q_2 (iI ((2 ^ n : Nat) : Int) + (xIF t q_3 5)).toNatClampNeg))), some (.retAddr 7), some (.int (iI k))] [] (0, 0) w_5 else xr U_waysBefore 0 71 [some (.ref 6), some (.int (iI (n : Int))), some (.int (iI (a : Int))), some (.int (iI (row : Int))), some (.int (iI ((2 ^ n : Nat) : Int))), some (.long (tot + (xLA t q_2 (iI ((2 ^ n : Nat) : Int) + (xIF t q_3 5)).toNatClampNeg))), some (.retAddr 7), some (.int (iI k))] [] (0, 0) w_5)))))))))))))) = o := by
          intro o ho
          refine s_lef (by omega) (s_g rfl (s_o (hGt.r (by decide) rfl) (s_g rfl ?_)))
          rw [hb]
          refine s_lef (by omega) (s_g rfl (s_o (hGt.r (by decide) rfl) (s_g rfl (s_o (hGt.r (by decide) rfl) (s_g rfl ?_)))))
          rw [hb, iI_add]
          refine s_g (xin_t (n := 2048) (by omega)) (s_g rfl (s_o (hGt.r (by decide) rfl) (s_g rfl (s_I a1 ?_))))
          rw [iI_nat (by omega), show (((2 ^ n : Nat) : Int) + (x : Int)).toNat = 2 ^ n + x by omega, ra]
          exact ho
        cases F with
        | nil =>
          refine ⟨w', pre _ (s_bf rfl ?_), ft.tr a2, a3⟩
          rw [q_U_waysBefore_77]
          show some (Value.long (tot + xLA w 7 (2 ^ n + x)), w') = some (Value.long (tot + (xLA w 7 (2 ^ n + x) + 0)), w')
          rw [Int64.add_zero]
        | cons y F =>
          obtain ⟨w'', b1, b2, b3⟩ := ih (k + 1) w' (tot + xLA w 7 (2 ^ n + x)) (by simp) (by show k + 1 + (F.length + 1) ≤ 2 ^ n; have : k + (F.length + 1 + 1) ≤ 2 ^ n := hk'; omega) (fun q hq => hlt q (List.mem_cons_of_mem _ hq)) (ft.tr a2) a3 (a4 (by simp))
          refine ⟨w'', pre _ (s_bt rfl ?_), b2, b3⟩
          rw [q_U_waysBefore_71, iI_add]
          rw [Int64.add_assoc] at b1
          exact b1
      · have tw : (x :: F).takeWhile (fun x => decide (row < x)) = [] := List.takeWhile_cons_of_neg (by rw [decide_eq_false hr]; decide)
        rw [tw]
        refine ⟨t, ?_, ft, t10⟩
        refine s_lef (by omega) (s_g rfl (s_o (hGt.r (by decide) rfl) (s_g rfl ?_)))
        rw [hb]
        refine s_let (by omega) ?_
        rw [q_U_waysBefore_77]
        show some (Value.long tot, t) = some (Value.long (tot + 0), t)
        rw [Int64.add_zero]
  have hne : fl n a 0 ≠ [] := by
    intro q
    obtain ⟨cs, r, h1, -, -⟩ := s4
    rw [q] at h1
    cases h1
  obtain ⟨w', k1, k2, k3⟩ := lp (fl n a 0) 0 w1 (lI 0) hne (by have := fl_len n a 0; omega) (fun x hx => fl_lt n a 0 x hx) s2 s3 s4
  refine ⟨w', ?_, k2, k3⟩
  rw [show (lI 0 : Int64) = 0 from rfl, Int64.zero_add] at k1
  rw [e_U_waysBefore, q_U_waysBefore_0, iI_pow (by omega)]
  exact s_g rfl (s_o (hG.r (by decide) rfl) (s_g rfl (s_V s1 k1)))
def CW (w : XW) (n : Nat) : Prop := ∀ v, v < 2 ^ n → xLA w 7 (2 ^ n + v) = lI (wy n v : Nat)
def nbI (w : XW) : Prop := (∀ k, 1 ≤ k → k ≤ 10 → xIA w 8 k = iI 0 ∨ (xIA w 8 k = iI 1 ∧ CW w k)) ∧ xIA w 10 0 = iI 0
theorem nbI_fr {w' : XW} {S : Nat → Bool} (h : nbI w) (f : xFr S w w') (hS : ∀ q, 7 ≤ q → q ≤ 12 → S q = false) : nbI w' := by
  refine ⟨fun k h1 h2 => ?_, by rw [f.a (by decide) (hS 10 (by decide) (by decide))]; exact h.2⟩
  rcases h.1 k h1 h2 with q | ⟨q1, q2⟩
  · exact Or.inl (by rw [f.a (by decide) (hS 8 (by decide) (by decide))]; exact q)
  · exact Or.inr ⟨by rw [f.a (by decide) (hS 8 (by decide) (by decide))]; exact q1, fun v hv => by rw [f.l (by decide) (hS 7 (by decide) (by decide))]; exact q2 v hv⟩
theorem takeWhile_all {l : List Nat} {p : Nat → Bool} (h : ∀ x ∈ l, p x = true) : l.takeWhile p = l := by
  induction l with
  | nil => rfl
  | cons x l ih => rw [List.takeWhile_cons_of_pos (h x List.mem_cons_self), ih (fun y hy => h y (List.mem_cons_of_mem _ hy))]
theorem u_learn (hG : XG w) (hI : nbI w) (hn : 1 ≤ n ∧ n ≤ 10) {z : Int} (hz : z = n) : ∃ w', xm U_learnWays 0 [.ref 6, .int (iI z)] w = some (.null, w') ∧ xFr nS w w' ∧ nbI w' ∧ CW w' n := by
  subst hz
  have p10 : (2 : Nat) ^ n ≤ 1024 := Nat.le_trans (Nat.pow_le_pow_right (by decide) hn.2) (by decide)
  have pp := pow_pos2 n
  rw [e_U_learnWays, q_U_learnWays_0]
  rcases hI.1 n hn.1 hn.2 with h8 | ⟨h8, hC⟩
  · have f1 : xFr nS w (xpI w 8 n (iI 1)) := fr_pI rfl
    have f2 : xFr nS w (xpL (xpI w 8 n (iI 1)) 7 (2 ^ n + (2 ^ n - 1)) (lI 1)) := f1.tr (fr_pL rfl)
    have lp : ∀ (r : Nat) (t : XW), r ≤ 2 ^ n - 1 → xFr nS w t → xIA t 8 = xIA (xpI w 8 n (iI 1)) 8 → xIA t 10 0 = iI 0 → (∀ q, ¬ (2 ^ n ≤ q ∧ q < 2 ^ n + 2 ^ n) → xLA t 7 q = xLA w 7 q) → (∀ v, r ≤ v → v < 2 ^ n → xLA t 7 (2 ^ n + v) = lI (wy n v : Nat)) → ∃ w', xr U_learnWays 0 39 [some (.ref 6), some (.int (iI (n : Int))), some (.int (iI ((2 ^ n : Nat) : Int))), some (.int (iI (((2 ^ n : Nat) : Int) - 1))), some (.int (iI ((r : Int) - 1)))] [] (0, 0) t = some (.null, w') ∧ xFr nS w w' ∧ nbI w' ∧ CW w' n := by
      intro r
      induction r with
      | zero =>
        intro t _ ft t8 t10 tout tin
        have hCt : CW t n := fun v hv => tin v (Nat.zero_le _) hv
        refine ⟨t, ?_, ft, ⟨fun k h1 h2 => ?_, t10⟩, hCt⟩
        · rw [q_U_learnWays_39, iI_zero]
          refine s_ltt (by omega) ?_
          rw [q_U_learnWays_67]
        · rw [t8, a_pI, if_pos rfl]
          by_cases e : k = n
          · rw [if_pos e, e]; exact Or.inr ⟨rfl, hCt⟩
          · rw [if_neg e]
            rcases hI.1 k h1 h2 with q | ⟨q1, q2⟩
            · exact Or.inl q
            · refine Or.inr ⟨q1, fun v hv => ?_⟩
              rw [tout (2 ^ k + v) ?_]
              · exact q2 v hv
              · rcases Nat.lt_or_ge k n with y | y
                · have : 2 ^ (k + 1) ≤ 2 ^ n := Nat.pow_le_pow_right (by decide) y
                  rw [Nat.pow_succ] at this
                  omega
                · have : 2 ^ (n + 1) ≤ 2 ^ k := Nat.pow_le_pow_right (by decide) (by omega)
                  rw [Nat.pow_succ] at this
                  omega
      | succ r ih =>
        intro t hr ft t8 t10 tout tin
        have hGt := ft.G hG
        obtain ⟨t1, b1, b2, b3⟩ := u_before (w := t) hGt hn t10 (a := r) (row := 0) (by omega) pp (z := (n : Int)) (za := ((r + 1 : Nat) : Int) - 1) (zr := 0) (by omega)
        have vs : lsum (((fl n r 0).takeWhile (fun x => decide (0 < x))).map (fun x => xLA t 7 (2 ^ n + x))) = lI (wy n r : Nat) := by
          rw [takeWhile_all (fun x hx => decide_eq_true (by have := fl_gt n r x (by omega) hx; omega)), wy_eq (by omega : r < 2 ^ n), if_neg (by omega), ← lsum_lI]
          congr 1
          exact List.map_congr_left (fun x hx => tin x (by have := fl_gt n r x (by omega) hx; omega) (fl_lt n r 0 x hx))
        rw [vs] at b1
        have g1 := ft.tr (wS_nS b2)
        have l7 : xLA t1 7 = xLA t 7 := b2.l (by decide) (by decide)
        obtain ⟨w', k1, k2⟩ := ih (xpL t1 7 (2 ^ n + r) (lI (wy n r : Nat))) (by omega) (g1.tr (fr_pL rfl)) (by rw [← t8]; exact b2.a (by decide) (by decide)) b3 (fun q hq => by
          rw [l_pL, if_pos rfl, if_neg (by omega), l7]; exact tout q hq) (fun v h1 h2 => by
          rw [l_pL, if_pos rfl]
          by_cases e : v = r
          · rw [if_pos (by omega), e]
          · rw [if_neg (by omega), l7]; exact tin v (by omega) h2)
        refine ⟨w', ?_, k2⟩
        rw [q_U_learnWays_39, iI_zero, iI_add, iI_add]
        refine s_ltf (by omega) (s_g rfl (s_o (hGt.r (by decide) rfl) (s_g rfl (s_J b1 (s_g (xin_t (n := 2048) (by omega)) ?_)))))
        rw [iI_nat (by omega), show (((2 ^ n : Nat) : Int) + (((r + 1 : Nat) : Int) - 1)).toNat = 2 ^ n + r by omega, show ((r + 1 : Nat) : Int) - 1 + -1 = (r : Int) - 1 by omega]
        exact k1
    obtain ⟨w', k1, k2⟩ := lp (2 ^ n - 1) (xpL (xpI w 8 n (iI 1)) 7 (2 ^ n + (2 ^ n - 1)) (lI 1)) (Nat.le_refl _) f2 rfl (by rw [a_pL, a_pI, if_neg (by decide)]; exact hI.2) (fun q hq => by rw [l_pL, if_pos rfl, if_neg (by omega)]; rfl) (fun v h1 h2 => by
      rw [l_pL, if_pos rfl, if_pos (by omega), show v = 2 ^ n - 1 by omega, wy_eq (by omega), if_pos rfl]; rfl)
    refine ⟨w', ?_, k2⟩
    refine s_g rfl (s_o (hG.r (by decide) rfl) (s_g (xin_t (n := 11) (by omega)) ?_))
    rw [iI_natk n (by omega), h8]
    refine s_t rfl ?_
    rw [q_U_learnWays_10, iI_natk n (by omega), iI_pow (by omega), iI_sub, iI_sub, iI_add]
    refine s_g rfl (s_o (hG.r (by decide) rfl) (s_g (xin_t (n := 11) (by omega)) (s_g (by decide) (s_g rfl (s_o ((f1.G hG).r (by decide) rfl) (s_g (xin_t (n := 2048) (by omega)) ?_))))))
    rw [iI_nat (by omega), show (((2 ^ n : Nat) : Int) + (((2 ^ n : Nat) : Int) - 1)).toNat = 2 ^ n + (2 ^ n - 1) by omega, show ((2 ^ n : Nat) : Int) - 1 - 1 = ((2 ^ n - 1 : Nat) : Int) - 1 by omega]
    exact k1
  · refine ⟨w, ?_, xFr.rf _ _, hI, hC⟩
    refine s_g rfl (s_o (hG.r (by decide) rfl) (s_g (xin_t (n := 11) (by omega)) ?_))
    rw [iI_natk n (by omega), h8]
    exact s_f (by decide) rfl
end XWALK
