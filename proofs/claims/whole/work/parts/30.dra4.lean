/-! ===== THE DRAFT, 4 (own work): the draft's table comes to a place of the class ===== -/
theorem iI_pow {e : Nat} (he : e < 31) : iI 1 <<< (iI (e : Int) &&& 31) = iI ((2 ^ e : Nat) : Int) := by
  have h1 : (2 : Nat) ^ e < 2 ^ 31 := Nat.pow_lt_pow_right (by decide) he
  have := iI_shl (v := 1) (s := e) (by omega) (by omega)
  rw [Nat.one_mul] at this
  exact this
theorem iI_andN {a b : Nat} (ha : a < 4294967296) (hb : b < 4294967296) : iI (a : Int) &&& iI (b : Int) = iI ((a &&& b : Nat) : Int) := by
  rw [iI_nI, iI_nI, iI_nI]
  apply Int32.toBitVec_inj.1
  apply BitVec.eq_of_toNat_eq
  show (BitVec.ofNat 32 a &&& BitVec.ofNat 32 b).toNat = (BitVec.ofNat 32 (a &&& b)).toNat
  rw [BitVec.toNat_and, BitVec.toNat_ofNat, BitVec.toNat_ofNat, BitVec.toNat_ofNat, Nat.mod_eq_of_lt ha, Nat.mod_eq_of_lt hb, Nat.mod_eq_of_lt (Nat.lt_of_le_of_lt Nat.and_le_left ha)]
theorem and_pow (v e : Nat) : v &&& 2 ^ e = v / 2 ^ e % 2 * 2 ^ e := by
  have h2 : v / 2 ^ e % 2 = 0 ∨ v / 2 ^ e % 2 = 1 := by omega
  apply Nat.eq_of_testBit_eq
  intro j
  rw [Nat.testBit_and, Nat.testBit_two_pow]
  by_cases e1 : e = j
  · subst e1
    rw [Nat.testBit_eq_decide_div_mod_eq (x := v)]
    rcases h2 with q | q
    · rw [q, Nat.zero_mul, Nat.zero_testBit]; rfl
    · rw [q, Nat.one_mul, Nat.testBit_two_pow]; rfl
  · rw [decide_eq_false e1, Bool.and_false]
    rcases h2 with q | q
    · rw [q, Nat.zero_mul, Nat.zero_testBit]
    · rw [q, Nat.one_mul, Nat.testBit_two_pow, decide_eq_false e1]
theorem iI_andpow {v e : Nat} (hv : v < 2147483648) (he : e < 31) : iI (v : Int) &&& iI ((2 ^ e : Nat) : Int) = iI ((v / 2 ^ e % 2 * 2 ^ e : Nat) : Int) := by
  have h1 : (2 : Nat) ^ e < 2 ^ 31 := Nat.pow_lt_pow_right (by decide) he
  rw [iI_andN (by omega) (by omega), and_pow]
theorem vOf_step (u : Nat → Nat) {n k : Nat} (hk : k < n) : vOf u (k + 1) * 2 ^ (n - (k + 1)) = vOf u k * 2 ^ (n - k) + u k * 2 ^ (n - 1 - k) := by
  show (2 * vOf u k + u k) * 2 ^ (n - (k + 1)) = _
  rw [show n - k = (n - 1 - k) + 1 by omega, show n - (k + 1) = n - 1 - k by omega, Nat.pow_succ, Nat.add_mul, Nat.mul_comm 2 (vOf u k), Nat.mul_assoc, Nat.mul_comm (2 ^ (n - 1 - k)) 2]
section XDRA
variable {w : XW} {s n : Nat} {d : Nat → Int}
theorem m_triangleBits (h : dr w s n d) (h0 : faultD s n d = 0) {zi : Int} (i : Nat) (hi : zi = i ∧ 1 ≤ i ∧ i ≤ n) : xm D_triangleBits 0 [.ref 4, .int (iI zi), .int (iI ((vOf (uD s d (i - 1)) n : Nat) : Int))] w = some (.int (iI ((vOf (uD s d i) n : Nat) : Int)), w) := by
  obtain ⟨rfl, hi1, hi2⟩ := hi
  obtain ⟨hG, hs, hn, e1, e2, hc⟩ := id h
  have ule : ∀ r, r ≤ n → ∀ k, k < n → uD s d r k ≤ 1 := fun r hr k hk => uD_le hs h0 hr hk
  have pw : ∀ k, k < n → iI 1 <<< (iI ((n : Int) - 1 - (k : Int)) &&& 31) = iI ((2 ^ (n - 1 - k) : Nat) : Int) := fun k hk => by
    rw [show (n : Int) - 1 - (k : Int) = ((n - 1 - k : Nat) : Int) by omega]; exact iI_pow (by omega)
  have p31 : (2 : Nat) ^ n < 2147483648 := Nat.lt_of_le_of_lt (Nat.pow_le_pow_right (by decide) hn.2) (by decide)
  have pl : ∀ k, k < n → (2 : Nat) ^ (n - 1 - k) < 2147483648 := fun k hk => Nat.lt_of_le_of_lt (Nat.pow_le_pow_right (by decide) (by omega)) p31
  have vl := vOf_lt (n := n) (ule (i - 1) (by omega))
  rw [e_D_triangleBits, q_D_triangleBits_0]
  have fin : ∀ t u, xr D_triangleBits 0 5 [some (.ref 4), some (.int (iI (i : Int))), some (.int (iI ((vOf (uD s d (i - 1)) n : Nat) : Int))), some (.int (iI t)), some (.int (iI (n : Int))), u] [] (0, 0) w = some (.int (iI t), w) := fun t u => by
    rw [q_D_triangleBits_5, e2]
    refine s_g rfl (s_let (by omega) ?_)
    rw [q_D_triangleBits_140]
  match s, hs with
  | 0, hs =>
    refine x_loop (fun (k : Nat) (t : Int) (u : Option Value) => xr D_triangleBits 0 5 [some (.ref 4), some (.int (iI (i : Int))), some (.int (iI ((vOf (uD 0 d (i - 1)) n : Nat) : Int))), some (.int (iI t)), some (.int (iI k)), u] [] (0, 0) w) n
      (fun k t => t = ((vOf (uD 0 d i) k * 2 ^ (n - k) : Nat) : Int)) (fun o => o = some (.int (iI ((vOf (uD 0 d i) n : Nat) : Int)), w)) (fun k t u hk hp => Or.inr ⟨((vOf (uD 0 d i) (k + 1) * 2 ^ (n - (k + 1)) : Nat) : Int), some (.int (iI ((2 ^ (n - 1 - k) : Nat) : Int))), ?_, rfl⟩) (fun t u hp => ?_) 0 none (by show _ = ((0 * 2 ^ n : Nat) : Int); rw [Nat.zero_mul]; rfl)
    · have dg := vOf_digit (n := n) (k := k) (ule (i - 1) (by omega)) hk
      have hu : ((uD 0 d i k : Nat) : Int) = (uD 0 d (i - 1) k : Nat) + d ((i - 1) * 11 + k) := by
        have a1 := uD_take (s := 0) (by omega) h0 (i := i) (j := k) hi2 hk
        have a2 := uD_take (s := 0) (by omega) h0 (i := i - 1) (j := k) (by omega) hk
        rw [← a1, ← a2]
        have g : ∀ q, takeC 0 d i q = takeC 0 d (i - 1) q + sumF (fun c => d ((i - 1) * 11 + c)) q := fun q => by
          obtain ⟨m, rfl⟩ : ∃ m, i = m + 1 := ⟨i - 1, by omega⟩
          rfl
        rw [g, g]
        show _ + (sumF (fun c => d ((i - 1) * 11 + c)) k + d ((i - 1) * 11 + k)) - _ = _
        omega
      rw [q_D_triangleBits_5, e2, e1]
      simp only [iI_sub]
      rw [pw k hk]
      refine s_g rfl (s_lef (by omega) (s_g rfl (s_g rfl (s_eqt rfl ?_))))
      rw [q_D_triangleBits_56, iI_sub]
      refine s_g rfl (s_I (m_cell h (i - 1) k (by omega)) ?_)
      rw [q_D_triangleBits_134, iI_andpow (by omega) (by omega), dg]
      simp only [iI_mul, iI_add]
      rw [hp, vOf_step _ hk]
      have : ((vOf (uD 0 d i) k * 2 ^ (n - k) : Nat) : Int) + (((uD 0 d (i - 1) k * 2 ^ (n - 1 - k) : Nat) : Int) + d ((i - 1) * 11 + k) * ((2 ^ (n - 1 - k) : Nat) : Int)) = ((vOf (uD 0 d i) k * 2 ^ (n - k) + uD 0 d i k * 2 ^ (n - 1 - k) : Nat) : Int) := by
        rw [Int.natCast_add, Int.natCast_mul (uD 0 d i k), hu, Int.natCast_mul (uD 0 d (i - 1) k), Int.add_mul]
      rw [this]; rfl
    · rw [fin, hp, Nat.sub_self, Nat.pow_zero, Nat.mul_one]
  | 1, hs =>
    refine x_loop (fun (k : Nat) (t : Int) (u : Option Value) => xr D_triangleBits 0 5 [some (.ref 4), some (.int (iI (i : Int))), some (.int (iI ((vOf (uD 1 d (i - 1)) n : Nat) : Int))), some (.int (iI t)), some (.int (iI k)), u] [] (0, 0) w) n
      (fun k t => t = ((vOf (uD 1 d i) k * 2 ^ (n - k) : Nat) : Int)) (fun o => o = some (.int (iI ((vOf (uD 1 d i) n : Nat) : Int)), w)) (fun k t u hk hp => Or.inr ⟨((vOf (uD 1 d i) (k + 1) * 2 ^ (n - (k + 1)) : Nat) : Int), some (.int (iI ((2 ^ (n - 1 - k) : Nat) : Int))), ?_, rfl⟩) (fun t u hp => ?_) 0 none (by show _ = ((0 * 2 ^ n : Nat) : Int); rw [Nat.zero_mul]; rfl)
    · have hu : d (i * 11 + (k + 1)) - d (i * 11 + k) = ((uD 1 d i k : Nat) : Int) := uD_take (s := 1) (by omega) h0 (i := i) (j := k) hi2 hk
      rw [q_D_triangleBits_5, e2, e1]
      simp only [iI_sub]
      rw [pw k hk]
      refine s_g rfl (s_lef (by omega) (s_g rfl (s_g rfl (s_eqf (by omega) (s_eqt rfl ?_)))))
      rw [q_D_triangleBits_79, iI_add]
      refine s_g rfl (s_I (m_cell h i (k + 1) (by omega)) (s_g rfl (s_I (m_cell h i k (by omega)) ?_)))
      rw [q_D_triangleBits_134]
      simp only [iI_sub, iI_mul, iI_add]
      rw [hp, vOf_step _ hk, hu, ← Int.natCast_mul, ← Int.natCast_add]; rfl
    · rw [fin, hp, Nat.sub_self, Nat.pow_zero, Nat.mul_one]
  | 2, hs =>
    have hb := fault12 h0
    have ck : ∀ k, k < i → colOk n d i k := fun k hk => Classical.byContradiction (fun q => hb i k ⟨⟨hi1, hi2, hk⟩, q⟩)
    have rise : ∀ k, k + 1 < i → d (i * 11 + k) < d (i * 11 + (k + 1)) := fun k hk2 => by
      have := (ck (k + 1) hk2).2.1
      rw [show k + 1 - 1 = k by omega] at this
      omega
    refine x_loop (fun (k : Nat) (t : Int) (u : Option Value) => xr D_triangleBits 0 5 [some (.ref 4), some (.int (iI (i : Int))), some (.int (iI ((vOf (uD 2 d (i - 1)) n : Nat) : Int))), some (.int (iI t)), some (.int (iI k)), u] [] (0, 0) w) n
      (fun k t => t = ((vOf (fun j => inR (fun q => d (i * 11 + q)) j (min k i)) n : Nat) : Int)) (fun o => o = some (.int (iI ((vOf (uD 2 d i) n : Nat) : Int)), w)) (fun k t u hk hp => Or.inr ⟨((vOf (fun j => inR (fun q => d (i * 11 + q)) j (min (k + 1) i)) n : Nat) : Int), some (.int (iI ((2 ^ (n - 1 - k) : Nat) : Int))), ?_, rfl⟩) (fun t u hp => ?_) 0 none ?_
    · rw [q_D_triangleBits_5, e2, e1]
      simp only [iI_sub]
      rw [pw k hk]
      refine s_g rfl (s_lef (by omega) (s_g rfl (s_g rfl (s_eqf (by omega) (s_eqf (by omega) ?_)))))
      rw [q_D_triangleBits_105]
      by_cases hki : i ≤ k
      · refine s_let (by omega) ?_
        rw [q_D_triangleBits_131, q_D_triangleBits_132, q_D_triangleBits_134]
        simp only [iI_add, Int.add_zero]
        rw [hp, show min (k + 1) i = i by omega, show min k i = i by omega]; rfl
      · have cr := (ck k (by omega)).1
        obtain ⟨p, hpp⟩ : ∃ p : Nat, d (i * 11 + k) = p := ⟨(d (i * 11 + k)).toNat, by omega⟩
        refine s_lef (by omega) (s_g rfl (s_g rfl (s_I (m_cell h i k (by omega)) ?_)))
        rw [q_D_triangleBits_132, q_D_triangleBits_134, e2]
        simp only [iI_sub, hpp]
        rw [pw p (by omega)]
        simp only [iI_add]
        rw [hp, show min (k + 1) i = k + 1 by omega, show min k i = k by omega, ← Int.natCast_add, ← vOf_set (u := fun j => inR (fun q => d (i * 11 + q)) j k) (n := n) (p := p) (by omega) (inR_no (fun q hq => by have := rise_lt (f := fun q => d (i * 11 + q)) rise q k hq (by omega); omega))]
        have : vOf (fun k_1 => if k_1 = p then 1 else inR (fun q => d (i * 11 + q)) k_1 k) n = vOf (fun j => inR (fun q => d (i * 11 + q)) j (k + 1)) n := vOf_congr (fun j hj => by
          show _ = (if d (i * 11 + k) = j then 1 else inR (fun q => d (i * 11 + q)) j k)
          by_cases e : j = p
          · rw [if_pos e, if_pos (by omega)]
          · rw [if_neg e, if_neg (by omega)])
        rw [this]; rfl
    · rw [fin, hp, show min n i = i by omega]; rfl
    · show (0 : Int) = ((vOf (fun j => inR (fun q => d (i * 11 + q)) j (min 0 i)) n : Nat) : Int)
      rw [show min 0 i = 0 by omega]
      have z : ∀ m, vOf (fun j => inR (fun q => d (i * 11 + q)) j 0) m = 0 := fun m => by
        induction m with
        | zero => rfl
        | succ m ih => show 2 * vOf _ m + 0 = 0; rw [ih]
      rw [z]; rfl
theorem m_copyTo {a : Nat} (h : dr w s n d) (h0 : faultD s n d = 0) (ha : isT a) (hz : zr w a) : ∃ w', xm D_copyTo 0 [.ref 4, .ref a] w = some (.null, w') ∧ xFr (fun q => q == a || q == a + 1) w w' ∧ tb w' a n (takeC s d) ∧ zr w' a := by
  obtain ⟨hG, hs, hn, e1, e2, hc⟩ := id h
  have hl := ha.lt
  have hne : a ≠ 4 ∧ a + 1 ≠ 4 ∧ a ≠ 5 ∧ a + 1 ≠ 5 := by unfold isT at ha; omega
  have f1 : xFr (fun q => q == a || q == a + 1) w (xpF w a 1 (xIF w 4 2)) := fr_pF (by rw [beq_self_eq_true]; rfl)
  have dk : ∀ t, xFr (fun q => q == a || q == a + 1) w t → dr t s n d := fun t f => h.fr f (by simp only [Bool.or_eq_false_iff, beq_eq_false_iff_ne]; exact ⟨fun q => hne.1 q.symm, fun q => hne.2.1 q.symm⟩) (by simp only [Bool.or_eq_false_iff, beq_eq_false_iff_ne]; exact ⟨fun q => hne.2.2.1 q.symm, fun q => hne.2.2.2 q.symm⟩)
  have ule : ∀ r, r ≤ n → ∀ k, k < n → uD s d r k ≤ 1 := fun r hr k hk => uD_le hs h0 hr hk
  have hasm := asm_take hs h0
  have p31 : (2 : Nat) ^ n < 2147483648 := Nat.lt_of_le_of_lt (Nat.pow_le_pow_right (by decide) hn.2) (by decide)
  have u0 : ∀ k, uD s d 0 k = 0 ∨ s = 1 := fun k => by
    match s, hs with
    | 0, _ => exact Or.inl rfl
    | 1, _ => exact Or.inr rfl
    | 2, _ => exact Or.inl rfl
  have v0 : vOf (uD s d 0) n = 0 := by
    have z : ∀ m, m ≤ n → vOf (uD s d 0) m = 0 := fun m => by
      induction m with
      | zero => intro _; rfl
      | succ m ih =>
        intro hm
        have g := uD_take hs h0 (i := 0) (j := m) (by omega) (by omega)
        rw [hasm.1 (m + 1) hm, hasm.1 m (by omega)] at g
        show 2 * vOf (uD s d 0) m + uD s d 0 m = 0
        rw [ih (by omega)]; omega
    exact z n (Nat.le_refl _)
  have rowSum : ∀ i, i ≤ n → ∀ c, c ≤ n → sumF (bt n (vOf (uD s d i) n)) c = takeC s d i c := by
    intro i hi c
    induction c with
    | zero => intro _; exact (hasm.2.1 i hi).symm
    | succ c ih =>
      intro hcn
      show sumF (bt n (vOf (uD s d i) n)) c + bt n (vOf (uD s d i) n) c = _
      rw [ih (by omega)]
      unfold bt
      rw [vOf_digit (ule i hi) (by omega), ← uD_take hs h0 hi (by omega)]; omega
  have key : ∃ w', xr D_copyTo 0 12 [some (.ref 4), some (.ref a), some (.int (iI ((vOf (uD s d 0) n : Nat) : Int))), some (.int (iI (((0 : Nat) : Int) + 1)))] [] (0, 0) (xpF w a 1 (xIF w 4 2)) = some (.null, w') ∧ xFr (fun q => q == a || q == a + 1) w w' ∧ xIF w' a 1 = iI n ∧ zr w' a ∧ ∀ r c, r ≤ n → c ≤ n → xIA w' (a + 1) (r * 11 + c) = iI (takeC s d r c) := by
    refine x_loop (fun (k : Nat) (t : XW) (_ : Unit) => xr D_copyTo 0 12 [some (.ref 4), some (.ref a), some (.int (iI ((vOf (uD s d k) n : Nat) : Int))), some (.int (iI ((k : Int) + 1)))] [] (0, 0) t) n
      (fun k t => xFr (fun q => q == a || q == a + 1) w t ∧ xIF t a 1 = iI n ∧ zr t a ∧ ∀ r c, r ≤ k → c ≤ n → xIA t (a + 1) (r * 11 + c) = iI (takeC s d r c)) (fun o => ∃ w', o = some (.null, w') ∧ xFr (fun q => q == a || q == a + 1) w w' ∧ xIF w' a 1 = iI n ∧ zr w' a ∧ ∀ r c, r ≤ n → c ≤ n → xIA w' (a + 1) (r * 11 + c) = iI (takeC s d r c))
      (fun k t u hk hp => Or.inr ?_) (fun t u hp => ⟨t, ?_, hp⟩) _ () ⟨f1, by rw [f_pF, if_pos rfl, if_pos rfl, e2], hz, fun r c hr hc => ?_⟩
    · obtain ⟨p1, p2, p3, p4⟩ := hp
      have vl := vOf_lt (n := n) (ule (k + 1) (by omega))
      obtain ⟨t', l1, l2, l3⟩ := m_layRow (w := t) (zi := (k : Int) + 1) (p1.G hG) ha hn p2 (k + 1) (vOf (uD s d (k + 1)) n) (by omega) (by omega)
      refine ⟨t', (), ?_, p1.tr (l2.wk (fun q _ hq => by rw [hq]; exact Bool.or_true _)), ?_, fun q hq => ?_, fun r c hr hc => ?_⟩
      · have tbits := m_triangleBits (dk t p1) h0 (zi := (k : Int) + 1) (k + 1) (by omega)
        rw [show k + 1 - 1 = k by omega] at tbits
        rw [q_D_copyTo_12, (dk t p1).2.2.2.2.1]
        refine s_g rfl (s_ltf (by omega) (s_g rfl (s_I tbits (s_g (T_rv ha) (s_V l1 ?_)))))
        rw [iI_add]; rfl
      · rw [l2.f (by omega) (by rw [beq_eq_false_iff_ne]; omega)]; exact p2
      · rw [l3, l3, if_neg (by omega), if_neg (by omega)]; exact p3 q hq
      · rw [l3]
        by_cases e : r = k + 1
        · subst e
          by_cases e0 : c = 0
          · subst e0
            rw [if_neg (by omega), hasm.2.1 _ (by omega)]
            exact (p3 (k + 1) (by omega)).2
          · rw [if_pos (by omega), show (k + 1) * 11 + c - (k + 1) * 11 = c by omega, rowSum (k + 1) (by omega) c hc]
        · rw [if_neg (by omega)]; exact p4 r c (by omega) hc
    · rw [q_D_copyTo_12, (dk t hp.1).2.2.2.2.1]
      refine s_g rfl (s_ltt (by omega) ?_)
      rw [q_D_copyTo_39]
    · have : r = 0 := by omega
      subst this
      show xIA w (a + 1) (0 * 11 + c) = _
      rw [Nat.zero_mul, Nat.zero_add, (hz c (by omega)).1, hasm.1 c hc]
  obtain ⟨w', k1, k2, k3, k4, k5⟩ := key
  refine ⟨w', ?_, k2, ⟨ha, k2.G hG, hn, k3, hasm, k5⟩, k4⟩
  rw [v0] at k1
  rw [e_D_copyTo, q_D_copyTo_0]
  exact s_g rfl (s_g (T_ok ha) k1)
end XDRA
