/-! ===== THE DRAFT, 1 (own work): what the class's Draft methods answer ===== -/
def dr (w : XW) (s n : Nat) (d : Nat → Int) : Prop := XG w ∧ s ≤ 2 ∧ (1 ≤ n ∧ n ≤ 10) ∧ xIF w 4 1 = iI s ∧ xIF w 4 2 = iI n ∧ ∀ k, k < 121 → xIA w 5 k = iI (d k) ∧ i32 (d k)
theorem dr.fr {w w1 : XW} {s n : Nat} {d : Nat → Int} {S : Nat → Bool} (h : dr w s n d) (f : xFr S w w1) (h1 : S 4 = false) (h2 : S 5 = false) : dr w1 s n d :=
  ⟨f.G h.1, h.2.1, h.2.2.1, by rw [f.f (by decide) h1]; exact h.2.2.2.1, by rw [f.f (by decide) h1]; exact h.2.2.2.2.1, by rw [f.a (by decide) h2]; exact h.2.2.2.2.2⟩
def altP (f : Nat → Int) (n : Nat) : Prop := (∀ k, k < n → 0 ≤ sumF f (k + 1) ∧ sumF f (k + 1) ≤ 1) ∧ sumF f n = 1
theorem altP_pre {f : Nat → Int} {n : Nat} (h : ∀ k, k < n → 0 ≤ sumF f (k + 1) ∧ sumF f (k + 1) ≤ 1) {k : Nat} (hk : k ≤ n) : 0 ≤ sumF f k ∧ sumF f k ≤ 1 := by
  match k, hk with
  | 0, _ => exact ⟨Int.le_refl 0, (by decide : (0 : Int) ≤ 1)⟩
  | k + 1, hk => exact h k hk
noncomputable def altB (f : Nat → Int) (n : Nat) : Bool := @decide (altP f n) (Classical.propDecidable _)
theorem altB_t {f : Nat → Int} {n : Nat} (h : altP f n) : altB f n = true := @decide_eq_true _ (Classical.propDecidable _) h
theorem altB_f {f : Nat → Int} {n : Nat} (h : ¬ altP f n) : altB f n = false := @decide_eq_false _ (Classical.propDecidable _) h
theorem altB_iff {f : Nat → Int} {n : Nat} : altB f n = true ↔ altP f n := ⟨fun h => @of_decide_eq_true _ (Classical.propDecidable _) h, altB_t⟩
noncomputable def faultL (n : Nat) (d : Nat → Int) : Int :=
  if firstN (fun i => !altB (fun k => d (i * 11 + k)) n) n < n then 100 + (firstN (fun i => !altB (fun k => d (i * 11 + k)) n) n : Nat)
  else if firstN (fun j => !altB (fun k => d (k * 11 + j)) n) n < n then 200 + (firstN (fun j => !altB (fun k => d (k * 11 + j)) n) n : Nat) else 0
def corOk (n : Nat) (d : Nat → Int) (i j : Nat) : Prop := ((i = 0 ∨ j = 0) → d (i * 11 + j) = 0) ∧ (i = n → d (i * 11 + j) = j) ∧ (j = n → d (i * 11 + j) = i) ∧ (i = 0 ∨ d (i * 11 + j) = d ((i - 1) * 11 + j) ∨ d (i * 11 + j) = d ((i - 1) * 11 + j) + 1) ∧ (j = 0 ∨ d (i * 11 + j) = d (i * 11 + (j - 1)) ∨ d (i * 11 + j) = d (i * 11 + (j - 1)) + 1)
def colOk (n : Nat) (d : Nat → Int) (i j : Nat) : Prop := (0 ≤ d (i * 11 + j) ∧ d (i * 11 + j) ≤ n - 1) ∧ (j = 0 ∨ d (i * 11 + (j - 1)) < d (i * 11 + j)) ∧ (i = 1 ∨ ((j = i - 1 ∨ d (i * 11 + j) ≤ d ((i - 1) * 11 + j)) ∧ (j = 0 ∨ d ((i - 1) * 11 + (j - 1)) ≤ d (i * 11 + j))))
def cellBad (s n : Nat) (d : Nat → Int) (i j : Nat) : Prop := match s with
  | 1 => (i ≤ n ∧ j ≤ n) ∧ ¬ corOk n d i j
  | _ => (1 ≤ i ∧ i ≤ n ∧ j < i) ∧ ¬ colOk n d i j
noncomputable def faultC (s n : Nat) (d : Nat → Int) : Int := match frst (cellBad s n d) with
  | some (i, j) => 1000 + 100 * (i : Int) + j
  | none => 0
noncomputable def faultD (s n : Nat) (d : Nat → Int) : Int := if s = 0 then faultL n d else faultC s n d
def hasD (s n : Nat) (zi zj : Int) : Bool := match s with
  | 0 => decide (0 ≤ zi ∧ zi ≤ n - 1) && decide (0 ≤ zj ∧ zj ≤ n - 1)
  | 1 => decide (0 ≤ zi ∧ zi ≤ n) && decide (0 ≤ zj ∧ zj ≤ n)
  | _ => decide (1 ≤ zi ∧ zi ≤ n) && decide (0 ≤ zj ∧ zj ≤ zi - 1)
section XDRA
variable {w : XW} {s n : Nat} {d : Nat → Int}
theorem m_clear (hG : XG w) {zs zn : Int} (hs : zs = s ∧ s ≤ 2) (hn : zn = n ∧ 1 ≤ n ∧ n ≤ 10) : ∃ w', xm D_clear 0 [.ref 4, .int (iI zs), .int (iI zn)] w = some (.null, w') ∧ xFr (fun q => q == 4 || q == 5) w w' ∧ dr w' s n (fun _ => 0) := by
  have f1 : xFr (fun q => q == 4 || q == 5) w (xpF (xpF w 4 1 (iI zs)) 4 2 (iI zn)) := (fr_pF rfl).tr (fr_pF rfl)
  rw [e_D_clear, q_D_clear_0]
  have key : ∃ w', xr D_clear 0 12 [some (.ref 4), some (.int (iI zs)), some (.int (iI zn)), some (.int (iI ((0 : Nat) : Int)))] [] (0, 0) (xpF (xpF w 4 1 (iI zs)) 4 2 (iI zn)) = some (.null, w') ∧ xFr (fun q => q == 4 || q == 5) w w' ∧ xIF w' 4 1 = iI zs ∧ xIF w' 4 2 = iI zn ∧ ∀ k, k < 121 → xIA w' 5 k = iI 0 := by
    refine x_loop (fun (k : Nat) (t : XW) (_ : Unit) => xr D_clear 0 12 [some (.ref 4), some (.int (iI zs)), some (.int (iI zn)), some (.int (iI k))] [] (0, 0) t) 121
      (fun k t => xFr (fun q => q == 4 || q == 5) w t ∧ xIF t 4 1 = iI zs ∧ xIF t 4 2 = iI zn ∧ ∀ q, q < k → xIA t 5 q = iI 0) (fun o => ∃ w', o = some (.null, w') ∧ xFr (fun q => q == 4 || q == 5) w w' ∧ xIF w' 4 1 = iI zs ∧ xIF w' 4 2 = iI zn ∧ ∀ k, k < 121 → xIA w' 5 k = iI 0)
      (fun k t u hk hp => Or.inr ⟨xpI t 5 k (iI 0), (), ?_, hp.1.tr (fr_pI rfl), hp.2.1, hp.2.2.1, fun q hq => ?_⟩) (fun t u hp => ⟨t, ?_, hp⟩) _ () ⟨f1, ?_, ?_, fun q hq => absurd hq (Nat.not_lt_zero _)⟩
    · rw [q_D_clear_12, iI_natk k (by omega), iI_add]
      refine s_lef (by omega) (s_g rfl (s_o ((hp.1.G hG).r (by decide) rfl) (s_g ?_ rfl)))
      exact xin_t (n := 121) (by omega)
    · rw [a_pI, if_pos rfl]
      by_cases e : q = k
      · rw [if_pos e]
      · rw [if_neg e]; exact hp.2.2.2 q (by omega)
    · rw [q_D_clear_12]
      refine s_let (by omega) ?_
      rw [q_D_clear_31]
    · rw [f_pF, if_pos rfl, if_neg (by decide), f_pF, if_pos rfl, if_pos rfl]
    · rw [f_pF, if_pos rfl, if_pos rfl]
  obtain ⟨w', k1, k2, k3, k4, k5⟩ := key
  refine ⟨w', s_g rfl (s_g rfl k1), k2, k2.G hG, hs.2, hn.2, by rw [k3, hs.1], by rw [k4, hn.1], fun k hk => ⟨k5 k hk, (by decide : i32 0)⟩⟩
theorem m_cell (h : dr w s n d) {zi zj : Int} (i j : Nat) (hh : zi = i ∧ zj = j ∧ i ≤ 10 ∧ j ≤ 10) : xm D_cell 0 [.ref 4, .int (iI zi), .int (iI zj)] w = some (.int (iI (d (i * 11 + j))), w) := by
  obtain ⟨rfl, rfl, hi, hj⟩ := hh
  rw [e_D_cell, q_D_cell_0, iI_mul, iI_add]
  refine s_g rfl (s_o (h.1.r (by decide) rfl) (s_g (xin_t (n := 121) (by omega)) ?_))
  rw [iI_nat (by omega), show ((i : Int) * 11 + (j : Int)).toNat = i * 11 + j by omega, (h.2.2.2.2.2 _ (by omega)).1]
theorem m_write (h : dr w s n d) {zi zj : Int} (i j : Nat) (hh : zi = i ∧ zj = j ∧ i ≤ 10 ∧ j ≤ 10) {v : Int} (hv : i32 v) : ∃ w', xm D_write 0 [.ref 4, .int (iI zi), .int (iI zj), .int (iI v)] w = some (.null, w') ∧ xFr (fun q => q == 5) w w' ∧ dr w' s n (fun k => if k = i * 11 + j then v else d k) := by
  obtain ⟨rfl, rfl, hi, hj⟩ := hh
  refine ⟨xpI w 5 (i * 11 + j) (iI v), ?_, fr_pI rfl, (fr_pI (S := fun q => q == 5) rfl).G h.1, h.2.1, h.2.2.1, h.2.2.2.1, h.2.2.2.2.1, fun k hk => ?_⟩
  · rw [e_D_write, q_D_write_0, iI_mul, iI_add]
    refine s_g rfl (s_o (h.1.r (by decide) rfl) (s_g (xin_t (n := 121) (by omega)) ?_))
    rw [iI_nat (by omega), show ((i : Int) * 11 + (j : Int)).toNat = i * 11 + j by omega]
  · rw [a_pI, if_pos rfl]
    dsimp only
    by_cases e : k = i * 11 + j
    · rw [if_pos e, if_pos e]; exact ⟨rfl, hv⟩
    · rw [if_neg e, if_neg e]; exact h.2.2.2.2.2 k hk
theorem m_has (h : dr w s n d) {zi zj : Int} (hi : i32 zi) (hj : i32 zj) : xm D_has 0 [.ref 4, .int (iI zi), .int (iI zj)] w = some (.int (bI (hasD s n zi zj)), w) := by
  obtain ⟨hG, hs, hn, e1, e2, -⟩ := id h
  rw [e_D_has, q_D_has_0, e1]
  refine s_g rfl ?_
  match s, hs with
  | 0, _ =>
    refine s_eqt rfl ?_
    rw [q_D_has_32, e2, iI_sub]
    refine s_g rfl (s_I (m_isWithin hi (by omega) (by omega) w) ?_)
    unfold hasD
    by_cases h1 : 0 ≤ zi ∧ zi ≤ (n : Int) - 1
    · refine s_pt h1 (s_g rfl ?_)
      rw [e2, iI_sub]
      refine s_I (m_isWithin hj (by omega) (by omega) w) ?_
      by_cases h2 : 0 ≤ zj ∧ zj ≤ (n : Int) - 1
      · refine s_pt h2 ?_
        rw [q_D_has_65, xbz_1]
        simp only [h1, h2, and_self, decide_true, Bool.and_self]
      · refine s_pf h2 ?_
        rw [q_D_has_64, q_D_has_65, xbz_0]
        simp only [h2, decide_false, Bool.and_false]
    · refine s_pf h1 ?_
      rw [q_D_has_64, q_D_has_65, xbz_0]
      simp only [h1, decide_false, Bool.false_and]
  | 1, _ =>
    refine s_eqf (by omega) (s_eqt rfl ?_)
    rw [q_D_has_66, e2]
    refine s_g rfl (s_I (m_isWithin hi (by omega) (by omega) w) ?_)
    unfold hasD
    by_cases h1 : 0 ≤ zi ∧ zi ≤ (n : Int)
    · refine s_pt h1 (s_g rfl ?_)
      rw [e2]
      refine s_I (m_isWithin hj (by omega) (by omega) w) ?_
      by_cases h2 : 0 ≤ zj ∧ zj ≤ (n : Int)
      · refine s_pt h2 ?_
        rw [q_D_has_95, xbz_1]
        simp only [h1, h2, and_self, decide_true, Bool.and_self]
      · refine s_pf h2 ?_
        rw [q_D_has_94, q_D_has_95, xbz_0]
        simp only [h2, decide_false, Bool.and_false]
    · refine s_pf h1 ?_
      rw [q_D_has_94, q_D_has_95, xbz_0]
      simp only [h1, decide_false, Bool.false_and]
  | 2, _ =>
    refine s_eqf (by omega) (s_eqf (by omega) ?_)
    rw [q_D_has_96, e2]
    refine s_g rfl (s_I (m_isWithin hi (by omega) (by omega) w) ?_)
    unfold hasD
    by_cases h1 : 1 ≤ zi ∧ zi ≤ (n : Int)
    · refine s_pt h1 ?_
      rw [iI_sub]
      refine s_I (m_isWithin hj (by omega) (by omega) w) ?_
      by_cases h2 : 0 ≤ zj ∧ zj ≤ zi - 1
      · refine s_pt h2 ?_
        rw [q_D_has_124, xbz_1]
        simp only [h1, h2, and_self, decide_true, Bool.and_self]
      · refine s_pf h2 ?_
        rw [q_D_has_123, q_D_has_124, xbz_0]
        simp only [h2, decide_false, Bool.and_false]
    · refine s_pf h1 ?_
      rw [q_D_has_123, q_D_has_124, xbz_0]
      simp only [h1, decide_false, Bool.false_and]
theorem m_alternates (h : dr w s n d) {zf zt : Int} (fr st : Nat) (hh : zf = fr ∧ zt = st ∧ fr + 9 * st ≤ 120) (f : Nat → Int) (hf : ∀ k, f k = d (fr + k * st)) (hfit : fr + (n - 1) * st < 121) : xm D_alternates 0 [.ref 4, .int (iI zf), .int (iI zt)] w = some (.int (bI (altB f n)), w) := by
  obtain ⟨rfl, rfl, hfs⟩ := hh
  obtain ⟨hG, hs, hn, e1, e2, hc⟩ := id h
  rw [e_D_alternates, q_D_alternates_0]
  refine x_loop (fun (k : Nat) (t : Int) (u : Option Value) => xr D_alternates 0 5 [some (.ref 4), some (.int (iI (fr : Int))), some (.int (iI (st : Int))), some (.int (iI t)), some (.int (iI k)), u] [] (0, 0) w) n
    (fun k t => t = 1 - 2 * sumF f k ∧ ∀ q, q < k → 0 ≤ sumF f (q + 1) ∧ sumF f (q + 1) ≤ 1) (fun o => o = some (.int (bI (altB f n)), w)) (fun k t u hk hp => ?_) (fun t u hp => ?_) 1 none ⟨rfl, fun q hq => absurd hq (Nat.not_lt_zero _)⟩
  · obtain ⟨hp1, hp2⟩ := hp
    have hb := altP_pre hp2 (Nat.le_refl k)
    have hks : k * st ≤ (n - 1) * st := Nat.mul_le_mul_right _ (by omega)
    have hx : (iI ((fr : Int) + (k : Int) * (st : Int))).toNatClampNeg = fr + k * st := by
      rw [show (fr : Int) + (k : Int) * (st : Int) = ((fr + k * st : Nat) : Int) by rw [Int.natCast_add, Int.natCast_mul], iI_natk _ (by omega)]
    have hxi : xoa w 5 1 (iI ((fr : Int) + (k : Int) * (st : Int))) = true := by
      rw [show (fr : Int) + (k : Int) * (st : Int) = ((fr + k * st : Nat) : Int) by rw [Int.natCast_add, Int.natCast_mul]]
      exact xin_t (n := 121) (by omega)
    have hcv := hc (fr + k * st) (by omega)
    have hfk := hf k
    have hsum : sumF f (k + 1) = sumF f k + f k := rfl
    have head : ∀ x, ((if iI (f k) = iI 0 then xr D_alternates 0 43 [some (.ref 4), some (.int (iI (fr : Int))), some (.int (iI (st : Int))), some (.int (iI t)), some (.int (iI k)), some (.int (iI (f k)))] [] (0, 0) w else if iI (f k) = iI t then xr D_alternates 0 40 [some (.ref 4), some (.int (iI (fr : Int))), some (.int (iI (st : Int))), some (.int (iI t)), some (.int (iI k)), some (.int (iI (f k)))] [] (0, 0) w else xbz (iI 0) w) = x) → xr D_alternates 0 5 [some (.ref 4), some (.int (iI (fr : Int))), some (.int (iI (st : Int))), some (.int (iI t)), some (.int (iI k)), u] [] (0, 0) w = x := by
      intro x hq
      rw [q_D_alternates_5, e2, iI_mul, iI_add]
      refine s_g rfl (s_lef (by omega) (s_g rfl (s_o (hG.r (by decide) rfl) (s_g hxi ?_))))
      rw [hx, hcv.1, ← hfk]
      exact hq
    by_cases h0 : f k = 0
    · refine Or.inr ⟨t, some (.int (iI (f k))), head _ (s_eqt h0 ?_), by rw [hp1, hsum, h0, Int.add_zero], fun q hq => ?_⟩
      · rw [q_D_alternates_43, iI_add]; rfl
      · by_cases e : q = k
        · rw [e, hsum]; omega
        · exact hp2 q (by omega)
    · by_cases h1 : f k = t
      · refine Or.inr ⟨-t, some (.int (iI (f k))), head _ (s_eqf (by omega) (s_eqt h1 ?_)), by rw [hsum]; omega, fun q hq => ?_⟩
        · rw [q_D_alternates_40, q_D_alternates_43, iI_add, iI_neg]; rfl
        · by_cases e : q = k
          · rw [e, hsum]; omega
          · exact hp2 q (by omega)
      · refine Or.inl (head _ (s_eqf (by omega) (s_eqf (by omega) ?_)))
        rw [xbz_0, altB_f (fun q => by have := q.1 k hk; rw [hsum] at this; omega)]
  · obtain ⟨hp1, hp2⟩ := hp
    have hb := altP_pre hp2 (Nat.le_refl n)
    rw [q_D_alternates_5, e2]
    refine s_g rfl (s_let (by omega) ?_)
    rw [q_D_alternates_49]
    by_cases h1 : sumF f n = 1
    · refine s_eqt (by omega) ?_
      rw [q_D_alternates_59, xbz_1, altB_t ⟨hp2, h1⟩]
    · refine s_eqf (by omega) ?_
      rw [q_D_alternates_58, q_D_alternates_59, xbz_0, altB_f (fun q => h1 q.2)]
theorem m_firstLineFault (h : dr w s n d) : xm D_firstLineFault 0 [.ref 4] w = some (.int (iI (faultL n d)), w) := by
  obtain ⟨hG, hs, hn, e1, e2, hc⟩ := id h
  have rowA : ∀ k, k < n → xm D_alternates 0 [.ref 4, .int (iI ((k : Int) * 11)), .int (iI 1)] w = some (.int (bI (altB (fun q => d (k * 11 + q)) n)), w) := fun k hk => m_alternates h (k * 11) 1 (by omega) _ (fun q => by rw [Nat.mul_one]) (by omega)
  have colA : ∀ k, k < n → xm D_alternates 0 [.ref 4, .int (iI (k : Int)), .int (iI 11)] w = some (.int (bI (altB (fun q => d (q * 11 + k)) n)), w) := fun k hk => m_alternates h k 11 (by omega) _ (fun q => by rw [Nat.add_comm]) (by omega)
  rw [e_D_firstLineFault, q_D_firstLineFault_0]
  have hx := x_ex (fun k : Nat => xr D_firstLineFault 0 2 [some (.ref 4), some (.int (iI k))] [] (0, 0) w) (fun k => some (.int (iI (100 + (k : Int))), w)) (fun i => !altB (fun k => d (i * 11 + k)) n) (N := n) (fun k hk hp => ?_) (fun k hk hp => ?_)
  · refine hx.trans ?_
    unfold faultL
    split
    · rfl
    · rw [q_D_firstLineFault_2, e2]
      refine s_g rfl (s_let (by omega) ?_)
      rw [q_D_firstLineFault_33]
      have hy := x_ex (fun k : Nat => xr D_firstLineFault 0 35 [some (.ref 4), some (.int (iI k))] [] (0, 0) w) (fun k => some (.int (iI (200 + (k : Int))), w)) (fun j => !altB (fun k => d (k * 11 + j)) n) (N := n) (fun k hk hp => ?_) (fun k hk hp => ?_)
      · refine hy.trans ?_
        split
        · rfl
        · rw [q_D_firstLineFault_35, e2]
          refine s_g rfl (s_let (by omega) ?_)
          rw [q_D_firstLineFault_65]
      · rw [q_D_firstLineFault_35, e2]
        refine s_g rfl (s_lef (by omega) (s_g rfl (s_I (colA k hk) (s_bt (by simpa using hp) ?_))))
        rw [q_D_firstLineFault_59, iI_add]; rfl
      · rw [q_D_firstLineFault_35, e2]
        refine s_g rfl (s_lef (by omega) (s_g rfl (s_I (colA k hk) (s_bf (by simpa using hp) ?_))))
        rw [iI_add]
  · rw [q_D_firstLineFault_2, e2, iI_mul]
    refine s_g rfl (s_lef (by omega) (s_g rfl (s_I (rowA k hk) (s_bt (by simpa using hp) ?_))))
    rw [q_D_firstLineFault_27, iI_add]; rfl
  · rw [q_D_firstLineFault_2, e2, iI_mul]
    refine s_g rfl (s_lef (by omega) (s_g rfl (s_I (rowA k hk) (s_bf (by simpa using hp) ?_))))
    rw [iI_add]
end XDRA
