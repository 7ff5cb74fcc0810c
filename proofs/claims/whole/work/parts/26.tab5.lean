/-! ===== TABLES, 5 (own work): a row out of bits; copies, extremes, moved tables ===== -/
def movC (n : Nat) (C : Nat → Nat → Int) (m i j : Nat) : Int := sumF (fun r => sumF (fun c => movE n C m r c) j) i
theorem sumF_zero {f : Nat → Int} {n : Nat} (h : ∀ k, k < n → f k = 0) : sumF f n = 0 := by
  induction n with
  | zero => rfl
  | succ n ih => show sumF f n + f n = 0; rw [ih (fun k hk => h k (by omega)), h n (by omega)]; rfl
theorem sumF_add (f g : Nat → Int) (n : Nat) : sumF (fun k => f k + g k) n = sumF f n + sumF g n := by
  induction n with
  | zero => rfl
  | succ n ih => show sumF _ n + (f n + g n) = (sumF f n + f n) + (sumF g n + g n); rw [ih]; omega
theorem sumF_neg (f : Nat → Int) (n : Nat) : sumF (fun k => - f k) n = - sumF f n := by
  induction n with
  | zero => rfl
  | succ n ih => show sumF _ n + - f n = -(sumF f n + f n); rw [ih]; omega
theorem sumF_tele (g : Nat → Int) (n : Nat) : sumF (fun k => g (k + 1) - g k) n = g n - g 0 := by
  induction n with
  | zero => show (0 : Int) = g 0 - g 0; omega
  | succ n ih => show sumF _ n + (g (n + 1) - g n) = _; rw [ih]; omega
theorem sumF_dA (C : Nat → Nat → Int) (i j : Nat) : sumF (fun c => dA C i c) j = (C (i + 1) j - C i j) - (C (i + 1) 0 - C i 0) := by
  have := sumF_tele (fun c => C (i + 1) c - C i c) j
  rw [← this]
  exact sumF_congr (fun k _ => by unfold dA; omega)
theorem sumF_swap (f : Nat → Nat → Int) (n m : Nat) : sumF (fun i => sumF (fun j => f i j) m) n = sumF (fun j => sumF (fun i => f i j) n) m := by
  induction n with
  | zero => exact (sumF_zero (fun k _ => rfl)).symm
  | succ n ih =>
    show sumF (fun i => sumF (fun j => f i j) m) n + sumF (fun j => f n j) m = sumF (fun j => sumF (fun i => f i j) n + f n j) m
    rw [sumF_add, ih]
theorem sum_corner {n : Nat} {C : Nat → Nat → Int} (h : asm n C) {i j : Nat} (hi : i ≤ n) (hj : j ≤ n) : sumF (fun r => sumF (fun c => dA C r c) j) i = C i j := by
  rw [sumF_congr (g := fun r => C (r + 1) j - C r j) (fun k hk => by rw [sumF_dA, h.2.1 (k + 1) (by omega), h.2.1 k (by omega)]; omega), sumF_tele (fun r => C r j), h.1 j hj]
  omega
/-- from the end of a row: the same sum, gone backwards -/
theorem sumF_back (f : Nat → Int) (n : Nat) : ∀ k, k ≤ n → sumF (fun c => f (n - 1 - c)) k = sumF f n - sumF f (n - k) := by
  intro k
  induction k with
  | zero => intro _; show (0 : Int) = _; rw [Nat.sub_zero]; omega
  | succ k ih =>
    intro hk
    show sumF (fun c => f (n - 1 - c)) k + f (n - 1 - k) = _
    rw [ih (by omega)]
    have h1 : n - k = (n - (k + 1)) + 1 := by omega
    have h2 : n - 1 - k = n - (k + 1) := by omega
    rw [h1, h2]
    show sumF f n - (sumF f (n - (k + 1)) + f (n - (k + 1))) + f (n - (k + 1)) = _
    omega
theorem movC_0 {n : Nat} {C : Nat → Nat → Int} (h : asm n C) {i j : Nat} (hi : i ≤ n) (hj : j ≤ n) : movC n C 0 i j = i - C i (n - j) := by
  have e : movC n C 0 i j = sumF (fun r => (sumF (fun c => dA C r c) n - sumF (fun c => dA C r c) (n - j))) i := sumF_congr (fun r _ => sumF_back (fun c => dA C r c) n j hj)
  rw [e, sumF_congr (g := fun r => sumF (fun c => dA C r c) n + - sumF (fun c => dA C r c) (n - j)) (fun k _ => by omega), sumF_add, sumF_neg, sum_corner h hi (Nat.le_refl n), sum_corner h hi (Nat.sub_le n j), h.2.2.2.1 i hi]
  omega
theorem movC_1 {n : Nat} {C : Nat → Nat → Int} (h : asm n C) {i j : Nat} (hi : i ≤ n) (hj : j ≤ n) : movC n C 1 i j = i - C (n - j) i := by
  have e : movC n C 1 i j = sumF (fun r => sumF (fun c => dA C (n - 1 - c) r) j) i := rfl
  rw [e, sumF_swap]
  have e2 : sumF (fun c => sumF (fun r => dA C (n - 1 - c) r) i) j = sumF (fun r => sumF (fun c => dA C r c) i) n - sumF (fun r => sumF (fun c => dA C r c) i) (n - j) := sumF_back (fun r => sumF (fun c => dA C r c) i) n j hj
  rw [e2, sum_corner h (Nat.le_refl n) hi, sum_corner h (Nat.sub_le n j) hi, h.2.2.1 i hi]
theorem movC_2 {n : Nat} {C : Nat → Nat → Int} (h : asm n C) {i j : Nat} (hi : i ≤ n) (hj : j ≤ n) : movC n C 2 i j = C j i := by
  have e : movC n C 2 i j = sumF (fun r => sumF (fun c => dA C c r) j) i := rfl
  rw [e, sumF_swap, sum_corner h hj hi]
theorem asm_mov {n : Nat} {C : Nat → Nat → Int} (h : asm n C) {m : Nat} (hm : m < 3) : asm n (movC n C m) := by
  obtain ⟨a1, a2, a3, a4, a5, a6⟩ := id h
  match m, hm with
  | 0, _ =>
    refine ⟨fun c hc => ?_, fun r hr => ?_, fun c hc => ?_, fun r hr => ?_, fun r c hr hc => ?_, fun r c hr hc => ?_⟩
    · rw [movC_0 h (by omega) hc, a1 _ (by omega)]; rfl
    · rw [movC_0 h hr (by omega), Nat.sub_zero, a4 r hr]; omega
    · rw [movC_0 h (by omega) hc, a3 _ (by omega)]; omega
    · rw [movC_0 h hr (by omega), Nat.sub_self, a2 r hr]; omega
    · rw [movC_0 h (by omega) hc, movC_0 h (by omega) hc]
      have := a5 r (n - c) hr (by omega)
      omega
    · rw [movC_0 h hr (by omega), movC_0 h hr (by omega)]
      have := a6 r (n - (c + 1)) hr (by omega)
      rw [show n - (c + 1) + 1 = n - c by omega] at this
      omega
  | 1, _ =>
    refine ⟨fun c hc => ?_, fun r hr => ?_, fun c hc => ?_, fun r hr => ?_, fun r c hr hc => ?_, fun r c hr hc => ?_⟩
    · rw [movC_1 h (by omega) hc, a2 _ (by omega)]; rfl
    · rw [movC_1 h hr (by omega), Nat.sub_zero, a3 r hr]; omega
    · rw [movC_1 h (by omega) hc, a4 _ (by omega)]; omega
    · rw [movC_1 h hr (by omega), Nat.sub_self, a1 r hr]; omega
    · rw [movC_1 h (by omega) hc, movC_1 h (by omega) hc]
      have := a6 (n - c) r (by omega) hr
      omega
    · rw [movC_1 h hr (by omega), movC_1 h hr (by omega)]
      have := a5 (n - (c + 1)) r (by omega) hr
      rw [show n - (c + 1) + 1 = n - c by omega] at this
      omega
  | 2, _ =>
    refine ⟨fun c hc => ?_, fun r hr => ?_, fun c hc => ?_, fun r hr => ?_, fun r c hr hc => ?_, fun r c hr hc => ?_⟩
    · rw [movC_2 h (by omega) hc]; exact a2 c hc
    · rw [movC_2 h hr (by omega)]; exact a1 r hr
    · rw [movC_2 h (by omega) hc]; exact a4 c hc
    · rw [movC_2 h hr (by omega)]; exact a3 r hr
    · rw [movC_2 h (by omega) hc, movC_2 h (by omega) hc]; exact a6 c r hc hr
    · rw [movC_2 h hr (by omega), movC_2 h hr (by omega)]; exact a5 c r hc hr
section XTAB
variable {w : XW} {a n : Nat} {C : Nat → Nat → Int}
theorem m_layRow (hG : XG w) (ha : isT a) (hn : 1 ≤ n ∧ n ≤ 10) (hf : xIF w a 1 = iI n) {zi : Int} (i v : Nat) (hi : zi = i ∧ i ≤ 10) (hv : v < 2147483648) : ∃ w', xm T_layRow 0 [.ref a, .int (iI zi), .int (iI v)] w = some (.null, w') ∧ xFr (fun q => q == a + 1) w w' ∧ (∀ k, xIA w' (a + 1) k = if i * 11 < k ∧ k ≤ i * 11 + n then iI (sumF (bt n v) (k - i * 11)) else xIA w (a + 1) k) := by
  rw [e_T_layRow, q_T_layRow_0]
  refine x_loop (fun (k : Nat) (s : XW × Int) (_ : Unit) => xr T_layRow 0 5 [some (.ref a), some (.int (iI zi)), some (.int (iI v)), some (.int (iI s.2)), some (.int (iI k))] [] (0, 0) s.1) n
    (fun k s => s.2 = sumF (bt n v) k ∧ xFr (fun q => q == a + 1) w s.1 ∧ xIF s.1 a 1 = iI n ∧ ∀ q, xIA s.1 (a + 1) q = if i * 11 < q ∧ q ≤ i * 11 + k then iI (sumF (bt n v) (q - i * 11)) else xIA w (a + 1) q) (fun o => ∃ w', o = some (.null, w') ∧ xFr (fun q => q == a + 1) w w' ∧ (∀ k, xIA w' (a + 1) k = if i * 11 < k ∧ k ≤ i * 11 + n then iI (sumF (bt n v) (k - i * 11)) else xIA w (a + 1) k))
    (fun k s u hk hp => Or.inr ⟨(xpI s.1 (a + 1) (i * 11 + k + 1) (iI (s.2 + bt n v k)), s.2 + bt n v k), (), ?_, ?_, ?_, ?_, ?_⟩) (fun s u hp => ⟨s.1, ?_, hp.2.1, hp.2.2.2⟩) (w, 0) () ⟨rfl, xFr.rf _ _, hf, fun q => by rw [if_neg (by omega)]⟩
  · obtain ⟨h1, h2, h3, h4⟩ := hp
    rw [q_T_layRow_5, h3, iI_sub, iI_sub, show (n : Int) - 1 - k = ((n - 1 - k : Nat) : Int) by omega, iI_bit hv (by omega)]
    simp only [iI_add, iI_mul]
    refine s_g (T_ok ha) (s_lef (by omega) (s_g (T_ok ha) (s_g (T_ok ha) (s_o ((h2.G hG).T ha) (s_g ?_ ?_)))))
    · rw [T_oa ha]; exact xin_t (by omega)
    · rw [iI_nat (by omega), show (zi * 11 + (k : Int) + 1).toNat = i * 11 + k + 1 by omega]; rfl
  · show s.2 + bt n v k = sumF (bt n v) (k + 1)
    rw [hp.1]; rfl
  · exact hp.2.1.tr (fr_pI (beq_self_eq_true _))
  · exact hp.2.2.1
  · intro q
    show xIA (xpI s.1 (a + 1) (i * 11 + k + 1) (iI (s.2 + bt n v k))) (a + 1) q = _
    rw [a_pI, if_pos rfl]
    by_cases e : q = i * 11 + k + 1
    · rw [if_pos e, if_pos (by omega), hp.1, show q - i * 11 = k + 1 by omega]; rfl
    · rw [if_neg e, hp.2.2.2 q]
      by_cases e2 : i * 11 < q ∧ q ≤ i * 11 + k
      · rw [if_pos e2, if_pos (by omega)]
      · rw [if_neg e2, if_neg (by omega)]
  · rw [q_T_layRow_5, hp.2.2.1]
    refine s_g (T_ok ha) (s_let (by omega) ?_)
    rw [q_T_layRow_51]
theorem m_become {b : Nat} (ha : isT a) (h : tb w b n C) (hz : zr w b) (hab : a ≠ b) : ∃ w', xm T_become 0 [.ref a, .ref b] w = some (.null, w') ∧ xFr (fun q => q == a || q == a + 1) w w' ∧ tb w' a n C ∧ zr w' a := by
  have hl := ha.lt
  have f1 : xFr (fun q => q == a || q == a + 1) w (xpF w a 1 (xIF w b 1)) := fr_pF (by rw [beq_self_eq_true]; rfl)
  have f2 : xFr (fun q => q == a || q == a + 1) w (xpG (xpF w a 1 (xIF w b 1)) (a + 1) (va_cpy (xIA (xpF w a 1 (xIF w b 1)) (b + 1)) (xIA (xpF w a 1 (xIF w b 1)) (a + 1)) 0 0 (iI 121).toNatClampNeg)) := f1.tr (fr_pG (by rw [beq_self_eq_true, Bool.or_true]))
  have hcp : ∀ k, k < 121 → xIA (xpG (xpF w a 1 (xIF w b 1)) (a + 1) (va_cpy (xIA (xpF w a 1 (xIF w b 1)) (b + 1)) (xIA (xpF w a 1 (xIF w b 1)) (a + 1)) 0 0 (iI 121).toNatClampNeg)) (a + 1) k = xIA w (b + 1) k := by
    intro k hk
    rw [a_pG, if_pos rfl]
    unfold va_cpy
    have e : (iI 121).toNatClampNeg = 121 := by decide
    rw [e, if_pos (by omega), a_pF, Nat.zero_add, Nat.sub_zero]
  refine ⟨_, ?_, f2, ⟨ha, f2.G h.2.1, h.2.2.1, ?_, h.2.2.2.2.1, fun i j hi hj => ?_⟩, fun k hk => ⟨?_, ?_⟩⟩
  · rw [e_T_become, q_T_become_0]
    refine s_g (T_ok h.1) (s_g (T_ok ha) (s_g (T_ok h.1) (s_o ((f1.G h.2.1).T h.1) (s_g (T_ok ha) (s_o ((f1.G h.2.1).T ha) (s_g ?_ rfl))))))
    unfold xcok
    rw [(T_ln ha _).1, (T_ln ha (xpF w a 1 (xIF w b 1))).2, (T_ln h.1 _).1, (T_ln h.1 (xpF w a 1 (xIF w b 1))).2]
    decide
  · rw [f_pG, f_pF, if_pos rfl, if_pos rfl, h.2.2.2.1]
  · have := h.2.2.1
    rw [hcp _ (by omega)]; exact h.2.2.2.2.2 i j hi hj
  · rw [hcp _ (by omega)]; exact (hz k hk).1
  · rw [hcp _ (by omega)]; exact (hz k hk).2
theorem m_becomeExtreme {b c : Nat} {D : Nat → Nat → Int} (gt : Bool) {x : Int32} (hx : x = bI gt) (ha : isT a) (h : tb w b n C) (g : tb w c n D) (hz : zr w b) (hz' : zr w c) : ∃ w', xm T_becomeExtreme 0 [.ref a, .ref b, .ref c, .int x] w = some (.null, w') ∧ xFr (fun q => q == a || q == a + 1) w w' ∧ tb w' a n (mxC gt C D) ∧ zr w' a := by
  subst hx
  have hl := ha.lt
  have hn := h.2.2.1
  have hin : ∀ k : Nat, k < 121 → xin (iI (k : Int)) 121 = true := fun k hk => xin_t (by omega)
  have f1 : xFr (fun q => q == a || q == a + 1) w (xpF w a 1 (xIF w b 1)) := fr_pF (by rw [beq_self_eq_true]; rfl)
  rw [e_T_becomeExtreme, q_T_becomeExtreme_0]
  refine Exists.imp (fun w' (hw : _ ∧ _) => hw) ?_
  have key : ∃ w', xr T_becomeExtreme 0 11 [some (.ref a), some (.ref b), some (.ref c), some (.int (bI gt)), some (.int (iI ((0 : Nat) : Int))), none, none] [] (0, 0) (xpF w a 1 (xIF w b 1)) = some (.null, w') ∧ xFr (fun q => q == a || q == a + 1) w w' ∧ xIF w' a 1 = iI n ∧ ∀ k, k < 121 → xIA w' (a + 1) k = mx gt (xIA w (b + 1) k) (xIA w (c + 1) k) := by
    refine x_loop (fun (k : Nat) (s : XW) (u : Option Value × Option Value) => xr T_becomeExtreme 0 11 [some (.ref a), some (.ref b), some (.ref c), some (.int (bI gt)), some (.int (iI k)), u.1, u.2] [] (0, 0) s) 121
      (fun k s => xFr (fun q => q == a || q == a + 1) w s ∧ xIF s a 1 = iI n ∧ (∀ q, xIA s (a + 1) q = if q < k then mx gt (xIA w (b + 1) q) (xIA w (c + 1) q) else xIA w (a + 1) q)) (fun o => ∃ w', o = some (.null, w') ∧ xFr (fun q => q == a || q == a + 1) w w' ∧ xIF w' a 1 = iI n ∧ ∀ k, k < 121 → xIA w' (a + 1) k = mx gt (xIA w (b + 1) k) (xIA w (c + 1) k))
      (fun k s u hk hp => Or.inr ⟨xpI s (a + 1) k (mx gt (xIA w (b + 1) k) (xIA w (c + 1) k)), (some (.int (xIA w (b + 1) k)), some (.int (xIA w (c + 1) k))), ?_, ?_, ?_, ?_⟩) (fun s u hp => ⟨s, ?_, hp.1, hp.2.1, fun k hk => by rw [hp.2.2 k, if_pos hk]⟩) (xpF w a 1 (xIF w b 1)) (none, none) ⟨f1, by rw [f_pF, if_pos rfl, if_pos rfl, h.2.2.2.1], fun q => by rw [if_neg (Nat.not_lt_zero _)]; rfl⟩
    · obtain ⟨hF, hnn, hA⟩ := hp
      have rd : ∀ t, isT t → xIA s (t + 1) k = xIA w (t + 1) k := by
        intro t ht
        by_cases e : t = a
        · rw [e, hA k, if_neg (Nat.lt_irrefl _)]
        · have hlt := ht.lt
          have : t ≠ a + 1 ∧ t + 1 ≠ a ∧ t + 1 ≠ a + 1 := by
            unfold isT at ht ha; omega
          rw [hF.a (by omega) (by simp only [Bool.or_eq_false_iff, beq_eq_false_iff_ne]; exact ⟨this.2.1, this.2.2⟩)]
      rw [q_T_becomeExtreme_11]
      have hG := hF.G h.2.1
      refine s_lef (by omega) (s_g (T_ok h.1) (s_o (hG.T h.1) (s_g ?_ (s_g (T_ok g.1) (s_o (hG.T g.1) (s_g ?_ (s_g (T_ok ha) (s_o (hG.T ha) ?_))))))))
      · rw [T_oa h.1]; exact hin k hk
      · rw [T_oa g.1]; exact hin k hk
      · rw [iI_natk k (by omega), rd b h.1, rd c g.1]
        cases gt with
        | true =>
          refine s_bt rfl (s_I (m_max _ _ s) ?_)
          rw [q_T_becomeExtreme_63, iI_natk k (by omega), iI_add]
          refine s_g ?_ rfl
          rw [T_oa ha]; exact hin k hk
        | false =>
          refine s_bf rfl ?_
          rw [q_T_becomeExtreme_56]
          refine s_I (m_min _ _ s) ?_
          rw [q_T_becomeExtreme_63, iI_natk k (by omega), iI_add]
          refine s_g ?_ rfl
          rw [T_oa ha]; exact hin k hk
    · exact hp.1.tr (fr_pI (by rw [beq_self_eq_true, Bool.or_true]))
    · exact hp.2.1
    · intro q
      rw [a_pI, if_pos rfl]
      by_cases e : q = k
      · rw [if_pos e, if_pos (by omega), e]
      · rw [if_neg e, hp.2.2 q]
        by_cases e2 : q < k
        · rw [if_pos e2, if_pos (by omega)]
        · rw [if_neg e2, if_neg (by omega)]
    · rw [q_T_becomeExtreme_11]
      refine s_let (by omega) ?_
      rw [q_T_becomeExtreme_70]
  obtain ⟨w', k1, k2, k3, k4⟩ := key
  refine ⟨w', ?_, k2, ⟨ha, k2.G h.2.1, hn, k3, asm_mx gt h.2.2.2.2.1 g.2.2.2.2.1, fun i j hi hj => ?_⟩, fun k hk => ⟨?_, ?_⟩⟩
  · exact s_g (T_ok h.1) (s_g (T_ok ha) k1)
  · rw [k4 _ (by omega), h.2.2.2.2.2 i j hi hj, g.2.2.2.2.2 i j hi hj]
    exact mx_iI gt h.2.2.2.2.1 g.2.2.2.2.1 hn.2 hi hj
  · rw [k4 _ (by omega), (hz k hk).1, (hz' k hk).1]
    cases gt <;> rfl
  · rw [k4 _ (by omega), (hz k hk).2, (hz' k hk).2]
    cases gt <;> rfl
theorem m_becomeMoved {b : Nat} (ha : isT a) (hz : zr w a) (h : tb w b n C) (hab : a ≠ b) {zm : Int} (m : Nat) (hm : zm = m ∧ m < 3) : ∃ w', xm T_becomeMoved 0 [.ref a, .ref b, .int (iI zm)] w = some (.null, w') ∧ xFr (fun q => q == a || q == a + 1) w w' ∧ tb w' a n (movC n C m) ∧ zr w' a := by
  have hl := ha.lt
  have hn := h.2.2.1
  have hbl := h.1.lt
  have hne : b ≠ a + 1 ∧ b + 1 ≠ a ∧ b + 1 ≠ a + 1 := by
    have h1 := h.1
    unfold isT at h1 ha; omega
  have tbb : ∀ s, xFr (fun q => q == a || q == a + 1) w s → tb s b n C := fun s f => h.fr f (by simp only [Bool.or_eq_false_iff, beq_eq_false_iff_ne]; exact ⟨fun q => hab q.symm, hne.1⟩) (by simp only [Bool.or_eq_false_iff, beq_eq_false_iff_ne]; exact ⟨hne.2.1, hne.2.2⟩)
  have f1 : xFr (fun q => q == a || q == a + 1) w (xpF w a 1 (xIF w b 1)) := fr_pF (by rw [beq_self_eq_true]; rfl)
  have key : ∃ w', xr T_becomeMoved 0 10 [some (.ref a), some (.ref b), some (.int (iI zm)), some (.int (iI ((0 : Nat) : Int))), none, none] [] (0, 0) (xpF w a 1 (xIF w b 1)) = some (.null, w') ∧ xFr (fun q => q == a || q == a + 1) w w' ∧ xIF w' a 1 = iI n ∧ zr w' a ∧ ∀ r c, r ≤ n → c ≤ n → xIA w' (a + 1) (r * 11 + c) = iI (movC n C m r c) := by
    refine x_nest (fun (i : Nat) (s : XW × Int) (u : Option Value × Option Value) => xr T_becomeMoved 0 10 [some (.ref a), some (.ref b), some (.int (iI zm)), some (.int (iI i)), u.1, u.2] [] (0, 0) s.1)
      (fun (i j : Nat) (s : XW × Int) (_ : Unit) => xr T_becomeMoved 0 24 [some (.ref a), some (.ref b), some (.int (iI zm)), some (.int (iI i)), some (.int (iI (if j = 0 then 0 else s.2))), some (.int (iI j))] [] (0, 0) s.1) n (fun _ => n)
      (fun i j s => (j ≠ 0 → s.2 = sumF (fun c => movE n C m i c) j) ∧ xFr (fun q => q == a || q == a + 1) w s.1 ∧ xIF s.1 a 1 = iI n ∧ zr s.1 a ∧ ∀ r c, (r ≤ i ∧ c ≤ n) ∨ (r = i + 1 ∧ i < n ∧ c ≤ j) → xIA s.1 (a + 1) (r * 11 + c) = iI (movC n C m r c)) (fun o => ∃ w', o = some (.null, w') ∧ xFr (fun q => q == a || q == a + 1) w w' ∧ xIF w' a 1 = iI n ∧ zr w' a ∧ ∀ r c, r ≤ n → c ≤ n → xIA w' (a + 1) (r * 11 + c) = iI (movC n C m r c))
      (fun i s u hi hp => ⟨(), ?_⟩) (fun i j s v hi hj hp => Or.inr ⟨(xpI s.1 (a + 1) ((i + 1) * 11 + (j + 1)) (iI (movC n C m (i + 1) (j + 1))), sumF (fun c => movE n C m i c) (j + 1)), (), ?_, ?_, ?_, ?_, ?_, ?_⟩) (fun i s v hi hp => ⟨(some (.int (iI (if n = 0 then 0 else s.2))), some (.int (iI n))), ?_, fun q => absurd rfl q, hp.2.1, hp.2.2.1, hp.2.2.2.1, ?_⟩) (fun s u hp => ⟨s.1, ?_, hp.2.1, hp.2.2.1, hp.2.2.2.1, fun r c hr hc => hp.2.2.2.2 r c (Or.inl ⟨hr, hc⟩)⟩) (xpF w a 1 (xIF w b 1), 0) (none, none) ⟨fun q => absurd rfl q, f1, by rw [f_pF, if_pos rfl, if_pos rfl, h.2.2.2.1], hz, ?_⟩
    · rw [q_T_becomeMoved_10, hp.2.2.1]
      exact s_g (T_ok ha) (s_lef (by omega) rfl)
    · obtain ⟨h1, h2, h3, h4, h5⟩ := hp
      have acc : (if j = 0 then 0 else s.2) = sumF (fun c => movE n C m i c) j := by
        by_cases e : j = 0
        · rw [if_pos e, e]; rfl
        · rw [if_neg e, h1 e]
      rw [q_T_becomeMoved_24, h3]
      refine s_g (T_ok ha) (s_lef (by omega) (s_g (T_rv h.1) (s_I (m_movedEntry (tbb s.1 h2) m i j (by omega)) (s_g (T_ok ha) (s_o ((h2.G h.2.1).T ha) (s_g (T_rv ha) ?_))))))
      simp only [iI_add, iI_mul, acc]
      refine s_I (m_corner0 (h2.G h.2.1) ha i (j + 1) (by omega)) (s_g ?_ ?_)
      · rw [T_oa ha]; exact xin_t (by omega)
      · rw [iI_nat (by omega), show (((i : Int) + 1) * 11 + (j : Int) + 1).toNat = (i + 1) * 11 + (j + 1) by omega, h5 i (j + 1) (Or.inl ⟨Nat.le_refl _, by omega⟩), iI_add]
        rfl
    · intro _; rfl
    · exact hp.2.1.tr (fr_pI (by rw [beq_self_eq_true, Bool.or_true]))
    · exact hp.2.2.1
    · exact zr_up hp.2.2.2.1 (by omega)
    · intro r c hrc
      show xIA (xpI s.1 (a + 1) ((i + 1) * 11 + (j + 1)) (iI (movC n C m (i + 1) (j + 1)))) (a + 1) (r * 11 + c) = _
      rw [a_pI, if_pos rfl]
      by_cases e : r = i + 1 ∧ c = j + 1
      · rw [if_pos (by omega), e.1, e.2]
      · rw [if_neg (by omega)]
        exact hp.2.2.2.2 r c (by omega)
    · rw [q_T_becomeMoved_24, hp.2.2.1]
      refine s_g (T_ok ha) (s_let (by omega) ?_)
      rw [q_T_becomeMoved_80, iI_add]; rfl
    · intro r c hrc
      have h0 : c = 0 → r = i + 1 + 1 → i + 1 < n → xIA s.1 (a + 1) (r * 11 + c) = iI (movC n C m r c) := by
        intro e1 e2 e3
        subst e1
        show xIA s.1 (a + 1) (r * 11) = _
        rw [(hp.2.2.2.1 r (by omega)).2]
        exact congrArg iI (sumF_zero (f := fun r => sumF (fun c => movE n C m r c) 0) (fun k _ => rfl)).symm
      rcases hrc with q | q
      · exact hp.2.2.2.2 r c (by omega)
      · by_cases e : c = 0
        · exact h0 e q.1 q.2.1
        · omega
    · rw [q_T_becomeMoved_10, hp.2.2.1]
      refine s_g (T_ok ha) (s_let (by omega) ?_)
      rw [q_T_becomeMoved_86]
    · intro r c hrc
      show xIA w (a + 1) (r * 11 + c) = _
      rcases hrc with q | q
      · have : r = 0 := by omega
        subst this
        rw [Nat.zero_mul, Nat.zero_add, (hz c (by omega)).1]; rfl
      · have : c = 0 := by omega
        subst this
        show xIA w (a + 1) (r * 11) = _
        rw [(hz r (by omega)).2]
        exact congrArg iI (sumF_zero (f := fun r => sumF (fun c => movE n C m r c) 0) (fun k _ => rfl)).symm
  obtain ⟨w', k1, k2, k3, k4, k5⟩ := key
  refine ⟨w', ?_, k2, ⟨ha, k2.G h.2.1, hn, k3, asm_mov h.2.2.2.2.1 hm.2, k5⟩, k4⟩
  rw [e_T_becomeMoved, q_T_becomeMoved_0]
  exact s_g (T_ok h.1) (s_g (T_ok ha) k1)
end XTAB
