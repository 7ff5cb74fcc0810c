/-! ===== NUMBERS, 15 (own work): the reference's rows: what may follow, what is ahead ===== -/
theorem fl_in (m : Nat) : ∀ a h x : Nat, a < 2 ^ m → x < 2 ^ m → h ≤ 1 → (∀ c, c ≤ m → 0 ≤ (h : Int) + sumF (bt m x) c - sumF (bt m a) c ∧ (h : Int) + sumF (bt m x) c - sumF (bt m a) c ≤ 1) → (h : Int) + sumF (bt m x) m - sumF (bt m a) m = 1 → x ∈ fl m a h := by
  induction m with
  | zero =>
    intro a h x ha hx hh _ he
    have e : (h : Int) + 0 - 0 = 1 := he
    have hx' : x < 1 := hx
    unfold fl
    rw [if_pos (by omega), show x = 0 by omega]
    exact List.mem_singleton.mpr rfl
  | succ m ih =>
    intro a h x ha hx hh hc he
    have hp := pow_pos2 m
    have ham := Nat.mod_lt a hp
    have hxm := Nat.mod_lt x hp
    have c1 := hc 1 (by omega)
    rw [pref_s hx 0 (by omega), pref_s ha 0 (by omega)] at c1
    have c1' : 0 ≤ (h : Int) + (((x / 2 ^ m : Nat) : Int) + 0) - (((a / 2 ^ m : Nat) : Int) + 0) ∧ (h : Int) + (((x / 2 ^ m : Nat) : Int) + 0) - (((a / 2 ^ m : Nat) : Int) + 0) ≤ 1 := c1
    rw [pref_s hx m (Nat.le_refl _), pref_s ha m (Nat.le_refl _)] at he
    have hr : ∀ c, c ≤ m → 0 ≤ (h : Int) + (((x / 2 ^ m : Nat) : Int) + sumF (bt m (x % 2 ^ m)) c) - (((a / 2 ^ m : Nat) : Int) + sumF (bt m (a % 2 ^ m)) c) ∧ (h : Int) + (((x / 2 ^ m : Nat) : Int) + sumF (bt m (x % 2 ^ m)) c) - (((a / 2 ^ m : Nat) : Int) + sumF (bt m (a % 2 ^ m)) c) ≤ 1 := fun c q => by
      have := hc (c + 1) (by omega)
      rw [pref_s hx c q, pref_s ha c q] at this
      exact this
    unfold fl
    rcases top_cases ha with qa | qa <;> rcases top_cases hx with qx | qx
    · rw [if_pos qa.1]
      rw [qa.1, qx.1] at he hr
      refine List.mem_append.mpr (Or.inr ?_)
      rw [← (top_lo qx.2).2]
      exact ih _ h _ ham hxm hh (fun c q => by have := hr c q; omega) (by omega)
    · rw [qa.1, qx.1] at he hr c1'
      rw [if_pos qa.1, if_pos (by omega)]
      refine List.mem_append.mpr (Or.inl (List.mem_map.mpr ⟨x % 2 ^ m, ?_, qx.2.symm⟩))
      exact ih _ 1 _ ham hxm (by omega) (fun c q => by have := hr c q; omega) (by omega)
    · rw [qa.1, qx.1] at he hr c1'
      rw [if_neg (by omega), if_pos (by omega)]
      refine List.mem_append.mpr (Or.inr ?_)
      rw [← (top_lo qx.2).2]
      exact ih _ 0 _ ham hxm (by omega) (fun c q => by have := hr c q; omega) (by omega)
    · rw [if_neg (by omega)]
      rw [qa.1, qx.1] at he hr
      refine List.mem_append.mpr (Or.inl (List.mem_map.mpr ⟨x % 2 ^ m, ?_, qx.2.symm⟩))
      exact ih _ h _ ham hxm hh (fun c q => by have := hr c q; omega) (by omega)
theorem pref_toC (n : Nat) : ∀ s c, c ≤ n → sumF (bt n (toC n s)) c = ((cB s c : Nat) : Int) := by
  induction n with
  | zero => intro s c hc; rw [show c = 0 by omega]; rfl
  | succ n ih =>
    intro s c hc
    cases c with
    | zero => rfl
    | succ c =>
      have t := toC_top n s
      rw [pref_s (toC_lt _ _) c (by omega), t.1, t.2, ih (s / 2) c (by omega), cB_shift]; omega
theorem cB_mono (s : Nat) {c k : Nat} (h : c ≤ k) : cB s c ≤ cB s k := by
  induction k with
  | zero => rw [show c = 0 by omega]; exact Nat.le_refl _
  | succ k ih =>
    by_cases e : c = k + 1
    · rw [e]; exact Nat.le_refl _
    · have := ih (by omega)
      show cB s c ≤ cB s k + s / 2 ^ k % 2
      omega
theorem fl_iff {n a s : Nat} (ha : a < 2 ^ n) : toC n s ∈ fl n (toC n a) 0 ↔ (∀ c, c ≤ n → cB a c ≤ cB s c ∧ cB s c ≤ cB a c + 1) ∧ cB s n = cB a n + 1 := by
  constructor
  · intro h
    have h2 := fl_pop n _ 0 _ (toC_lt n a) (by omega) h
    rw [cB_pop, cB_pop] at h2
    refine ⟨fun c hc => ?_, by omega⟩
    have := fl_pref n _ 0 _ (toC_lt n a) (by omega) h c hc
    rw [pref_toC n s c hc, pref_toC n a c hc] at this
    omega
  · rintro ⟨h1, h2⟩
    refine fl_in n _ 0 _ (toC_lt n a) (toC_lt n s) (by omega) (fun c hc => ?_) ?_
    · rw [pref_toC n s c hc, pref_toC n a c hc]
      have := h1 c hc
      omega
    · rw [pref_toC n s n (Nat.le_refl _), pref_toC n a n (Nat.le_refl _)]; omega
def fitB (a r c : Nat) : Bool := decide (cB a (c + 1) ≤ cB r (c + 1) ∧ cB r (c + 1) ≤ cB a (c + 1) + 1)
theorem toC_ord (n : Nat) : ∀ s t k, k < n → (∀ j, j < k → s / 2 ^ j % 2 = t / 2 ^ j % 2) → s / 2 ^ k % 2 = 1 → t / 2 ^ k % 2 = 0 → toC n t < toC n s := by
  induction n with
  | zero => intro s t k hk; exact absurd hk (Nat.not_lt_zero _)
  | succ n ih =>
    intro s t k hk hj hs ht
    have h1 := toC_lt n (t / 2)
    show t % 2 * 2 ^ n + toC n (t / 2) < s % 2 * 2 ^ n + toC n (s / 2)
    cases k with
    | zero =>
      rw [Nat.pow_zero, Nat.div_one] at hs ht
      rw [hs, ht]; omega
    | succ k =>
      have h0 := hj 0 (by omega)
      rw [Nat.pow_zero, Nat.div_one, Nat.div_one] at h0
      have sh : ∀ x j : Nat, x / 2 / 2 ^ j = x / 2 ^ (j + 1) := fun x j => by rw [Nat.div_div_eq_div_mul, ← Nat.pow_succ']
      have := ih (s / 2) (t / 2) k (by omega) (fun j q => by rw [sh, sh]; exact hj (j + 1) (by omega)) (by rw [sh]; exact hs) (by rw [sh]; exact ht)
      rw [h0]; omega
def lb (d : Nat) : Nat := firstN (fun k => decide (d / 2 ^ k % 2 = 1)) 10
theorem lb_ok : ∀ d, d < 1024 → d ≠ 0 → lb d < 10 ∧ iI (d : Int) &&& -iI (d : Int) = iI ((2 ^ lb d : Nat) : Int) := by
  have h : (List.range 1024).all (fun d => decide (d = 0) || (decide (lb d < 10) && decide (iI (d : Int) &&& -iI (d : Int) = iI ((2 ^ lb d : Nat) : Int)))) = true := by decide +kernel
  intro d hd h0
  have h1 := List.all_eq_true.mp h d (List.mem_range.mpr hd)
  simp only [Bool.or_eq_true, Bool.and_eq_true, decide_eq_true_eq] at h1
  rcases h1 with q | q
  · exact absurd q h0
  · exact q
theorem iI_xor (s t : Nat) : iI (s : Int) ^^^ iI (t : Int) = iI ((s ^^^ t : Nat) : Int) := by
  rw [iI_nI, iI_nI, iI_nI]
  apply Int32.toBitVec_inj.1
  show BitVec.ofNat 32 s ^^^ BitVec.ofNat 32 t = BitVec.ofNat 32 (s ^^^ t)
  rw [BitVec.ofNat_xor]
theorem xand_pow (s k : Nat) : s &&& 2 ^ k = s / 2 ^ k % 2 * 2 ^ k := by
  apply Nat.eq_of_testBit_eq
  intro i
  rw [Nat.testBit_and, Nat.testBit_two_pow]
  have hm : s / 2 ^ k % 2 = 0 ∨ s / 2 ^ k % 2 = 1 := by omega
  by_cases e : k = i
  · subst e
    rw [decide_eq_true rfl, Bool.and_true, Nat.testBit_eq_decide_div_mod_eq]
    rcases hm with q | q
    · rw [q, Nat.zero_mul, Nat.zero_testBit]; rfl
    · rw [q, Nat.one_mul, Nat.testBit_two_pow_self]; rfl
  · rw [decide_eq_false e, Bool.and_false]
    rcases hm with q | q
    · rw [q, Nat.zero_mul, Nat.zero_testBit]
    · rw [q, Nat.one_mul, Nat.testBit_two_pow, decide_eq_false e]
theorem iI_andp (s k : Nat) : iI (s : Int) &&& iI ((2 ^ k : Nat) : Int) = iI ((s / 2 ^ k % 2 * 2 ^ k : Nat) : Int) := by
  rw [iI_nI, iI_nI, iI_nI, ← xand_pow]
  apply Int32.toBitVec_inj.1
  show BitVec.ofNat 32 s &&& BitVec.ofNat 32 (2 ^ k) = BitVec.ofNat 32 (s &&& 2 ^ k)
  rw [BitVec.ofNat_and]
theorem xor_bit (s t k : Nat) : (s ^^^ t) / 2 ^ k % 2 = 1 ↔ ¬ s / 2 ^ k % 2 = t / 2 ^ k % 2 := by
  have h := Nat.testBit_xor s t k
  rw [Nat.testBit_eq_decide_div_mod_eq, Nat.testBit_eq_decide_div_mod_eq, Nat.testBit_eq_decide_div_mod_eq] at h
  have h1 : s / 2 ^ k % 2 = 0 ∨ s / 2 ^ k % 2 = 1 := by omega
  have h2 : t / 2 ^ k % 2 = 0 ∨ t / 2 ^ k % 2 = 1 := by omega
  rcases h1 with a | a <;> rcases h2 with b | b <;> rw [a, b] at h ⊢ <;> constructor <;> intro q
  · rw [q] at h; revert h; decide
  · exact absurd rfl q
  · decide
  · exact of_decide_eq_true (h.trans (by decide))
  · decide
  · exact of_decide_eq_true (h.trans (by decide))
  · rw [q] at h; revert h; decide
  · exact absurd rfl q
section XNUM15
variable {w : XW} {n : Nat}
theorem r_fits {a r : Nat} (ha : a < 2147483648) (hr : r < 2147483648) : xm M_fits 0 [.int (iI (a : Int)), .int (iI (r : Int))] w = some (.int (bI (allN (fitB a r) 13)), w) := by
  rw [e_M_fits, q_M_fits_0]
  refine x_allj (F := fun (k : Nat) (u : Option Value × Option Value) => xr M_fits 0 7 [some (.int (iI (a : Int))), some (.int (iI (r : Int))), some (.int (iI (cB r k : Nat))), some (.int (iI (cB a k : Nat))), some (.int (iI k)), u.1, u.2] [] (0, 0) w) (fun k hk hp u => ⟨(some (.int (iI ((r / 2 ^ k % 2 : Nat) : Int))), some (.int (iI ((a / 2 ^ k % 2 : Nat) : Int)))), ?_⟩) (fun k hk hp u => ?_) (fun u => ?_) (none, none)
  · have h1 := of_decide_eq_true hp
    have b1 := cB_le a (k + 1)
    have b2 := cB_le r (k + 1)
    show xr M_fits 0 7 _ [] (0, 0) w = _
    rw [q_M_fits_7, iI_bit hr (by omega), iI_bit ha (by omega), iI_add, iI_add, iI_sub, ← Int.natCast_add, ← Int.natCast_add]
    change cB a k + a / 2 ^ k % 2 ≤ cB r k + r / 2 ^ k % 2 ∧ cB r k + r / 2 ^ k % 2 ≤ cB a k + a / 2 ^ k % 2 + 1 at h1
    change cB a k + a / 2 ^ k % 2 ≤ k + 1 at b1
    change cB r k + r / 2 ^ k % 2 ≤ k + 1 at b2
    refine s_lef (by omega) (s_ltf (by omega) (s_let (by omega) ?_))
    rw [q_M_fits_54, iI_add]; rfl
  · have h1 := of_decide_eq_false hp
    have b1 := cB_le a (k + 1)
    have b2 := cB_le r (k + 1)
    show xr M_fits 0 7 _ [] (0, 0) w = _
    rw [q_M_fits_7, iI_bit hr (by omega), iI_bit ha (by omega), iI_add, iI_add, iI_sub, ← Int.natCast_add, ← Int.natCast_add]
    change ¬ (cB a k + a / 2 ^ k % 2 ≤ cB r k + r / 2 ^ k % 2 ∧ cB r k + r / 2 ^ k % 2 ≤ cB a k + a / 2 ^ k % 2 + 1) at h1
    change cB a k + a / 2 ^ k % 2 ≤ k + 1 at b1
    change cB r k + r / 2 ^ k % 2 ≤ k + 1 at b2
    refine s_lef (by omega) ?_
    by_cases e : cB r k + r / 2 ^ k % 2 < cB a k + a / 2 ^ k % 2
    · refine s_ltt (by omega) ?_
      rw [q_M_fits_52, xbz_0]
    · refine s_ltf (by omega) (s_lef (by omega) ?_)
      rw [q_M_fits_52, xbz_0]
  · show xr M_fits 0 7 _ [] (0, 0) w = _
    rw [q_M_fits_7]
    refine s_let (by omega) ?_
    rw [q_M_fits_60, xbz_1]
theorem r_follow (hn : n ≤ 13) {a s i : Nat} (ha : a < 2 ^ n) (hs : s < 2 ^ n) (hi : cB a n + 1 = i) {za zs zi : Int} (hz : za = a ∧ zs = s ∧ zi = i) : xm M_mayFollow 0 [.ref 34, .int (iI za), .int (iI zs), .int (iI zi)] w = some (.int (bI (decide (toC n s ∈ fl n (toC n a) 0))), w) := by
  obtain ⟨rfl, rfl, rfl⟩ := hz
  have p13 : (2 : Nat) ^ n ≤ 8192 := Nat.le_trans (Nat.pow_le_pow_right (by decide) hn) (by decide)
  have b1 := cB_le a n
  have b2 := cB_le s n
  have e20 := cB_hi hs 20 (by omega)
  rw [e_M_mayFollow, q_M_mayFollow_0]
  refine s_I (r_bits (by omega)) ?_
  rw [e20]
  by_cases e : cB s n = i
  · refine s_eqt (by omega) ?_
    by_cases e1 : i = 1
    · refine s_eqt (by omega) ?_
      rw [decide_eq_true ((fl_iff ha).mpr ⟨fun c hc => by have := cB_mono a hc; have := cB_mono s hc; omega, by omega⟩), q_M_mayFollow_21, q_M_mayFollow_26, xbz_1]
    · refine s_eqf (by omega) (s_I (r_fits (by omega) (by omega)) ?_)
      cases hf : allN (fitB a s) 13 with
      | true =>
        have h1 := allN_iff.mp hf
        refine s_bt rfl ?_
        rw [decide_eq_true ((fl_iff ha).mpr ⟨fun c hc => ?_, by omega⟩), q_M_mayFollow_21, q_M_mayFollow_26, xbz_1]
        cases c with
        | zero => exact ⟨Nat.le_refl _, Nat.le_succ _⟩
        | succ c => exact of_decide_eq_true (h1 c (by omega))
      | false =>
        refine s_bf rfl ?_
        rw [decide_eq_false (fun q => ?_), q_M_mayFollow_25, q_M_mayFollow_26, xbz_0]
        have h1 := (fl_iff ha).mp q
        have : allN (fitB a s) 13 = true := allN_iff.mpr (fun c hc => decide_eq_true (by
          rcases Nat.lt_or_ge c n with y | y
          · exact h1.1 (c + 1) y
          · rw [cB_hi ha (c + 1) (by omega), cB_hi hs (c + 1) (by omega)]; omega))
        rw [this] at hf; cases hf
  · refine s_eqf (by omega) ?_
    rw [decide_eq_false (fun q => e (by have := ((fl_iff ha).mp q).2; omega)), q_M_mayFollow_25, q_M_mayFollow_26, xbz_0]
theorem r_ahead (hn : n ≤ 10) {s t : Nat} (hs : s < 2 ^ n) (ht : t < 2 ^ n) {zs zt : Int} (hz : zs = s ∧ zt = t) : xm M_isAhead 0 [.int (iI zs), .int (iI zt)] w = some (.int (bI (decide (toC n t < toC n s))), w) := by
  obtain ⟨rfl, rfl⟩ := hz
  have p10 : (2 : Nat) ^ n ≤ 1024 := Nat.le_trans (Nat.pow_le_pow_right (by decide) hn) (by decide)
  have hd := Nat.xor_lt_two_pow hs ht
  rw [e_M_isAhead, q_M_isAhead_0, iI_xor, iI_zero]
  by_cases e : s = t
  · rw [← e, Nat.xor_self, decide_eq_false (Nat.lt_irrefl _)]
    refine s_eqt rfl ?_
    rw [q_M_isAhead_21, q_M_isAhead_22, xbz_0]
  · have h0 : s ^^^ t ≠ 0 := fun q => e (by
      have h1 : s ^^^ t ^^^ t = t := by rw [q, Nat.zero_xor]
      rw [Nat.xor_assoc, Nat.xor_self, Nat.xor_zero] at h1
      exact h1)
    obtain ⟨l1, l2⟩ := lb_ok _ (by omega) h0
    have y := of_decide_eq_true (firstN_yes (p := fun k => decide ((s ^^^ t) / 2 ^ k % 2 = 1)) l1)
    have no : ∀ j, j < lb (s ^^^ t) → s / 2 ^ j % 2 = t / 2 ^ j % 2 := fun j hj => by
      have h1 := of_decide_eq_false (firstN_no (p := fun k => decide ((s ^^^ t) / 2 ^ k % 2 = 1)) hj)
      by_cases q : s / 2 ^ j % 2 = t / 2 ^ j % 2
      · exact q
      · exact absurd ((xor_bit s t j).mpr q) h1
    change (s ^^^ t) / 2 ^ lb (s ^^^ t) % 2 = 1 at y
    have hk : lb (s ^^^ t) < n := by
      rcases Nat.lt_or_ge (lb (s ^^^ t)) n with q | q
      · exact q
      · rw [Nat.div_eq_of_lt (Nat.lt_of_lt_of_le hd (Nat.pow_le_pow_right (by decide) q))] at y
        cases y
    have df := (xor_bit s t _).mp y
    have pk := pow_pos2 (lb (s ^^^ t))
    have pk2 : (2 : Nat) ^ lb (s ^^^ t) ≤ 2 ^ n := Nat.pow_le_pow_right (by decide) (by omega)
    refine s_eqf (by omega) ?_
    rw [Int32.and_assoc, l2, iI_andp]
    rcases Nat.mod_two_eq_zero_or_one (s / 2 ^ lb (s ^^^ t)) with q | q
    · rw [q, Nat.zero_mul, decide_eq_false (fun z => ?_)]
      · refine s_eqt rfl ?_
        rw [q_M_isAhead_21, q_M_isAhead_22, xbz_0]
      · have := toC_ord n t s _ hk (fun j hj => (no j hj).symm) (by omega) q
        omega
    · rw [q, Nat.one_mul, decide_eq_true (toC_ord n s t _ hk no q (by omega))]
      refine s_eqf (by omega) ?_
      rw [q_M_isAhead_22, xbz_1]
end XNUM15
