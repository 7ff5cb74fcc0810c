/-! ===== NUMBERS, 6 (own work): count, first, weight ===== -/
theorem pop_single (m : Nat) : ∀ j, j < m → pop m (2 ^ j) = 1 := by
  induction m with
  | zero => intro j hj; exact absurd hj (Nat.not_lt_zero _)
  | succ m ih =>
    intro j hj
    unfold pop
    by_cases e : j = m
    · subst e
      rw [Nat.div_self (pow_pos2 j), Nat.mod_self, pop_zero]
    · have hl : 2 ^ j < 2 ^ m := Nat.pow_lt_pow_right (by decide) (by omega)
      rw [(top_lo hl).1, (top_lo hl).2, ih j (by omega)]
def fsN (n c : Nat) : Nat := (fsL.getD n []).getD c 0
theorem ev_all : ∀ n, 1 ≤ n → n ≤ 13 → evL n (lvP BB n (n - 1)) = fsL.getD n [] := by
  intro n h1 h2
  match n, h1, h2 with
  | 1, _, _ => exact ev_1
  | 2, _, _ => exact ev_2
  | 3, _, _ => exact ev_3
  | 4, _, _ => exact ev_4
  | 5, _, _ => exact ev_5
  | 6, _, _ => exact ev_6
  | 7, _, _ => exact ev_7
  | 8, _, _ => exact ev_8
  | 9, _, _ => exact ev_9
  | 10, _, _ => exact ev_10
  | 11, _, _ => exact ev_11
  | 12, _, _ => exact ev_12
  | 13, _, _ => exact ev_13
  | n + 14, _, h2 => omega
theorem wy_first {n c : Nat} (h1 : 1 ≤ n) (h2 : n ≤ 13) (hc : c < n) : wy n (2 ^ (n - 1 - c)) = fsN n c := by
  have hl : 2 ^ (n - 1 - c) < 2 ^ n := Nat.pow_lt_pow_right (by decide) (by omega)
  rw [← lv_wy n (n - 1) _ hl (by rw [pop_single n _ (by omega)]; omega)]
  have hB : (2 ^ n) ^ (n - 1 + 1) < BB := by
    rw [← Nat.pow_mul]
    exact Nat.pow_lt_pow_right (by decide) (by
      have : n * (n - 1 + 1) ≤ 13 * 13 := Nat.mul_le_mul h2 (by omega)
      omega)
  rw [← lvP_at (B := BB) (by decide) hB hl]
  unfold fsN
  rw [← ev_all n h1 h2]
  unfold evL
  rw [List.getD_eq_getElem?_getD, List.getElem?_map, List.getElem?_range hc]; rfl
def sumN (f : Nat → Nat) : Nat → Nat
  | 0 => 0
  | k + 1 => sumN f k + f k
theorem sumN_congr {f g : Nat → Nat} {n : Nat} (h : ∀ k, k < n → f k = g k) : sumN f n = sumN g n := by
  induction n with
  | zero => rfl
  | succ n ih => show sumN f n + f n = sumN g n + g n; rw [ih (fun k hk => h k (by omega)), h n (by omega)]
theorem xsl_sum : ∀ n, n < 14 → 1 ≤ n → ((sumN (fsN n) n : Nat) : Int) = xsl n := by decide +kernel
def trI (l : Int64) (o u : Int32) : Int64 := l / u.toInt64 * o.toInt64 + (l - l / u.toInt64 * u.toInt64) * o.toInt64 / u.toInt64
def fI (n : Nat) : Nat → Int64
  | 0 => lI (xsl (n - 1))
  | k + 1 => trI (fI n k) (iI (((n : Int) - ((k : Int) + 1)) * ((n : Int) + ((k : Int) + 1) - 1))) (iI (((k : Int) + 1) * (2 * (n : Int) - ((k : Int) + 1) - 1)))
theorem fI_ok : ∀ n, n < 14 → 1 ≤ n → ∀ c, c < n → fI n c = lI (fsN n c : Nat) := by decide +kernel
def o_count (z : Int) : Int64 := if 1 ≤ z ∧ z ≤ 13 then lI (xsl z.toNat) else lI (-1)
def o_first (z c : Int) : Int64 := if (1 ≤ z ∧ z ≤ 13) ∧ (0 ≤ c ∧ c ≤ z - 1) then lI (fsN z.toNat c.toNat : Nat) else lI (-1)
def o_weight (z : Int) : Int64 := if 1 ≤ z ∧ z ≤ 11 then lI 1 <<< (((iI z * (iI z - iI 1)) / iI 2).toInt64 &&& 63) else lI (-1)
section XNUM
variable {w : XW} {A : AS}
theorem c_count {z : Int} (hz : i32 z) : xm B_count 0 [.ref 0, .int (iI z)] w = some (.long (o_count z), w) := by
  rw [e_B_count, q_B_count_0]
  unfold o_count
  refine s_I (m_isWithin hz (by omega) (by omega) w) ?_
  by_cases h : 1 ≤ z ∧ z ≤ 13
  · refine s_pt h (s_g (xin_t (by omega)) ?_)
    rw [q_B_count_21, iI_nat (by omega), if_pos h]
  · refine s_pf h ?_
    rw [q_B_count_18, q_B_count_21, if_neg h]
theorem c_first {z c : Int} (hz : i32 z) (hc : i32 c) : xm B_first 0 [.ref 0, .int (iI z), .int (iI c)] w = some (.long (o_first z c), w) := by
  rw [e_B_first, q_B_first_0]
  have no : ¬ ((1 ≤ z ∧ z ≤ 13) ∧ (0 ≤ c ∧ c ≤ z - 1)) → xr B_first 0 21 [some (.ref 0), some (.int (iI z)), some (.int (iI c)), none, none, none] [] (0, 0) w = some (.long (o_first z c), w) := fun q => by
    unfold o_first
    rw [q_B_first_21, if_neg q]
  refine s_I (m_isWithin hz (by omega) (by omega) w) ?_
  by_cases h : 1 ≤ z ∧ z ≤ 13
  · refine s_pt h ?_
    rw [iI_sub]
    refine s_I (m_isWithin hc (by omega) (by omega) w) ?_
    by_cases h2 : 0 ≤ c ∧ c ≤ z - 1
    · refine s_pt h2 ?_
      have ok := fI_ok z.toNat (by omega) (by omega) c.toNat (by omega)
      obtain ⟨n, rfl⟩ : ∃ n : Nat, z = n := ⟨z.toNat, by omega⟩
      obtain ⟨k, rfl⟩ : ∃ k : Nat, c = k := ⟨c.toNat, by omega⟩
      rw [Int.toNat_natCast, Int.toNat_natCast] at ok
      unfold o_first
      rw [q_B_first_25, iI_sub, iI_nat (by omega), show ((n : Int) - 1).toNat = n - 1 by omega, if_pos ⟨h, h2⟩, Int.toNat_natCast, Int.toNat_natCast, ← ok]
      refine s_g (xin_t (by omega)) ?_
      refine x_loop (fun (q : Nat) (t : Int64) (_ : Unit) => xr B_first 0 36 [some (.ref 0), some (.int (iI (n : Int))), some (.int (iI (k : Int))), some (.long t), some (.retAddr 7), some (.int (iI ((q : Int) + 1)))] [] (0, 0) w) k
        (fun q t => t = fI n q) (fun o => o = some (.long (fI n k), w)) (fun q t u hq hp => Or.inr ⟨fI n (q + 1), (), ?_, rfl⟩) (fun t u hp => ?_) _ () rfl
      · rw [q_B_first_36]
        simp only [iI_sub, iI_add, iI_mul]
        have un : 1 ≤ ((q : Int) + 1) * (2 * (n : Int) - ((q : Int) + 1) - 1) ∧ ((q : Int) + 1) * (2 * (n : Int) - ((q : Int) + 1) - 1) < 1000 := by
          have h1 : 1 * 1 ≤ ((q : Int) + 1) * (2 * (n : Int) - ((q : Int) + 1) - 1) := Int.mul_le_mul (by omega) (by omega) (by omega) (by omega)
          have h3 : ((q : Int) + 1) * (2 * (n : Int) - ((q : Int) + 1) - 1) ≤ 13 * 26 := Int.mul_le_mul (by omega) (by omega) (by omega) (by omega)
          omega
        have tr : xm B_timesRatio 0 [.long t, .int (iI (((n : Int) - ((q : Int) + 1)) * ((n : Int) + ((q : Int) + 1) - 1))), .int (iI (((q : Int) + 1) * (2 * (n : Int) - ((q : Int) + 1) - 1)))] w = some (.long (fI n (q + 1)), w) := by
          have u0 : (iI (((q : Int) + 1) * (2 * (n : Int) - ((q : Int) + 1) - 1))).toInt64 ≠ 0 := fun y => by
            rw [iI_64 (by omega)] at y
            have := (lI_eq (b := 0) (by omega) (by omega)).mp y
            omega
          rw [e_B_timesRatio, q_B_timesRatio_0]
          refine s_let (by omega) ?_
          rw [q_B_timesRatio_9]
          refine s_f u0 (s_f u0 (s_f u0 ?_))
          rw [q_B_timesRatio_27, hp]; rfl
        exact s_ltf (by omega) (s_J tr rfl)
      · rw [q_B_first_36]
        refine s_ltt (by omega) ?_
        rw [q_B_first_75, hp]
    · exact s_pf h2 (no (fun q => h2 q.2))
  · exact s_pf h (no (fun q => h q.1))
theorem c_weight {z : Int} (hz : i32 z) : xm B_weight 0 [.ref 0, .int (iI z)] w = some (.long (o_weight z), w) := by
  rw [e_B_weight, q_B_weight_0]
  unfold o_weight
  refine s_I (m_isWithin hz (by omega) (by omega) w) ?_
  by_cases h : 1 ≤ z ∧ z ≤ 11
  · refine s_pt h (s_f (by decide) ?_)
    rw [q_B_weight_25, if_pos h]
  · refine s_pf h ?_
    rw [q_B_weight_22, q_B_weight_25, if_neg h]
theorem r_weight (h : IM w A) {z : Int} (hz : i32 z) : ∃ w', xm M_weight 0 [.ref 34, .int (iI z)] w = some (.long (o_weight z), w') ∧ IM w' A ∧ mFr w w' := by
  have h0 := IM_F (k := 0) (v := iI 0) h (by decide)
  refine ⟨_, ?_, h0, mFr_F (by decide)⟩
  rw [e_M_weight, q_M_weight_0]
  unfold o_weight
  refine s_g rfl ?_
  by_cases h1 : z < 1
  · refine s_ltt (by omega) ?_
    rw [q_M_weight_16, q_M_weight_31, if_neg (by omega)]
  · refine s_ltf (by omega) ?_
    by_cases h2 : z ≤ 11
    · refine s_let (by omega) ?_
      rw [q_M_weight_22]
      refine s_f (by decide) ?_
      rw [q_M_weight_31, if_pos (by omega)]
    · refine s_lef (by omega) ?_
      rw [q_M_weight_16, q_M_weight_31, if_neg (by omega)]
theorem r_way1 {n c : Nat} (hG : XG w) (hn : 1 ≤ n ∧ n ≤ 13) (hR : RW w n) (hc : c < n) : xRF w 34 9 = some 39 ∧ xoa w 39 3 (iI 1 <<< (iI (c : Int) &&& 31)) = true ∧ xLA w 39 (iI 1 <<< (iI (c : Int) &&& 31)).toNatClampNeg = lI (fsN n c : Nat) := by
  have p1 : (2 : Nat) ^ c < 2 ^ n := Nat.pow_lt_pow_right (by decide) hc
  have p13 : (2 : Nat) ^ n ≤ 8192 := Nat.le_trans (Nat.pow_le_pow_right (by decide) hn.2) (by decide)
  have pp := pow_pos2 c
  refine ⟨hG.r (by decide) rfl, ?_, ?_⟩
  · rw [iI_pow (by omega)]
    exact xin_t (n := 8192) (by omega)
  · rw [iI_pow (by omega), iI_natk _ (by omega), hR _ pp p1, toC_pow n c hc, wy_first hn.1 hn.2 hc]
theorem r_all (hG : XG w) (hI : wI w) {z : Int} (n : Nat) (hz : z = n ∧ 1 ≤ n ∧ n ≤ 13) : ∃ w', xm M_all 0 [.ref 34, .int (iI z)] w = some (.long (lI (xsl n)), w') ∧ xFr mT w w' ∧ kK w w' ∧ xIF w' 34 10 = iI n ∧ RW w' n := by
  obtain ⟨rfl, hn⟩ := hz
  obtain ⟨w', k1, k2, k3, k4, k5⟩ := r_work hG hI (z := (n : Int)) n ⟨rfl, hn⟩
  refine ⟨w', ?_, k2, k3, k4, k5⟩
  rw [e_M_all, q_M_all_0]
  refine s_g rfl (s_V k1 ?_)
  refine x_loop (fun (q : Nat) (t : Nat) (_ : Unit) => xr M_all 0 10 [some (.ref 34), some (.int (iI (n : Int))), some (.long (lI (t : Nat))), some (.retAddr 7), some (.int (iI q))] [] (0, 0) w') n
    (fun q t => t = sumN (fsN n) q) (fun o => o = some (.long (lI (xsl n)), w')) (fun q t u hq hp => Or.inr ⟨sumN (fsN n) (q + 1), (), ?_, rfl⟩) (fun t u hp => ?_) 0 () rfl
  · obtain ⟨g1, g2, g3⟩ := r_way1 (k2.G hG) hn k5 hq
    rw [q_M_all_10]
    refine s_lef (by omega) (s_g rfl (s_o g1 (s_g g2 ?_)))
    rw [g3, lI_add, iI_add, hp, ← Int.natCast_add]; rfl
  · rw [q_M_all_10]
    refine s_let (by omega) ?_
    rw [q_M_all_34, hp, xsl_sum n (by omega) hn.1]
theorem r_count (h : IM w A) (hI : wI w) {z : Int} (hz : i32 z) : ∃ w', xm M_count 0 [.ref 34, .int (iI z)] w = some (.long (o_count z), w') ∧ IM w' A ∧ wI w' ∧ xFr mT w w' := by
  have h0 := IM_F (k := 0) (v := iI 0) h (by decide)
  have f0 : mFr w (xpF w 34 0 (iI 0)) := mFr_F (by decide)
  rw [e_M_count, q_M_count_0]
  have no : ¬ (1 ≤ z ∧ z ≤ 13) → ∀ o, o = xr M_count 0 16 [some (.ref 34), some (.int (iI z))] [] (0, 0) (xpF w 34 0 (iI 0)) → ∃ w', xg (xok 34 7) o = some (.long (o_count z), w') ∧ IM w' A ∧ wI w' ∧ xFr mT w w' := fun q o ho => by
    refine ⟨_, s_g rfl ?_, h0, wI_m hI f0, f0.1⟩
    unfold o_count
    rw [ho, q_M_count_16, q_M_count_27, if_neg q]
  by_cases h1 : z < 1
  · exact no (by omega) _ (s_ltt (by omega) rfl)
  · by_cases h2 : z ≤ 13
    · obtain ⟨w', k1, k2, k3, k4, k5⟩ := r_all h0.1 (wI_m hI f0) (z := z) z.toNat (by omega)
      refine ⟨w', s_g rfl (s_ltf (by omega) (s_let (by omega) ?_)), IM_kK h0 (k2.G h0.1) k3, Or.inr ⟨z.toNat, by omega, k4, k5⟩, f0.1.tr k2⟩
      rw [q_M_count_22]
      refine s_g rfl (s_J k1 ?_)
      unfold o_count
      rw [q_M_count_27, if_pos (by omega)]
    · exact no (by omega) _ (s_ltf (by omega) (s_lef (by omega) rfl))
theorem r_first (h : IM w A) (hI : wI w) {z c : Int} (hz : i32 z) (hc : i32 c) : ∃ w', xm M_first 0 [.ref 34, .int (iI z), .int (iI c)] w = some (.long (o_first z c), w') ∧ IM w' A ∧ wI w' ∧ xFr mT w w' := by
  have h0 := IM_F (k := 0) (v := iI 0) h (by decide)
  have f0 : mFr w (xpF w 34 0 (iI 0)) := mFr_F (by decide)
  rw [e_M_first, q_M_first_0, iI_zero]
  have no : ¬ ((1 ≤ z ∧ z ≤ 13) ∧ (0 ≤ c ∧ c ≤ z - 1)) → ∀ o, o = xr M_first 0 25 [some (.ref 34), some (.int (iI z)), some (.int (iI c))] [] (0, 0) (xpF w 34 0 (iI 0)) → ∃ w', xg (xok 34 7) o = some (.long (o_first z c), w') ∧ IM w' A ∧ wI w' ∧ xFr mT w w' := fun q o ho => by
    refine ⟨_, s_g rfl ?_, h0, wI_m hI f0, f0.1⟩
    unfold o_first
    rw [ho, q_M_first_25, if_neg q]
  by_cases h1 : z < 1
  · exact no (by omega) _ (s_ltt (by omega) rfl)
  · by_cases h2 : 13 < z
    · exact no (by omega) _ (s_ltf (by omega) (s_ltt (by omega) rfl))
    · by_cases h3 : c < 0
      · exact no (by omega) _ (s_ltf (by omega) (s_ltf (by omega) (s_ltt (by omega) rfl)))
      · by_cases h4 : c < z
        · obtain ⟨w', k1, k2, k3, k4, k5⟩ := r_work h0.1 (wI_m hI f0) (z := z) z.toNat (by omega)
          refine ⟨w', s_g rfl (s_ltf (by omega) (s_ltf (by omega) (s_ltf (by omega) (s_ltt (by omega) ?_)))), IM_kK h0 (k2.G h0.1) k3, Or.inr ⟨z.toNat, by omega, k4, k5⟩, f0.1.tr k2⟩
          obtain ⟨g1, g2, g3⟩ := r_way1 (k2.G h0.1) (by omega) k5 (c := c.toNat) (by omega)
          rw [show ((c.toNat : Nat) : Int) = c by omega] at g2 g3
          rw [q_M_first_29]
          refine s_g rfl (s_V k1 (s_g rfl (s_o g1 (s_g g2 ?_))))
          unfold o_first
          rw [g3, if_pos (by omega)]
        · exact no (by omega) _ (s_ltf (by omega) (s_ltf (by omega) (s_ltf (by omega) (s_ltf (by omega) rfl))))
end XNUM
