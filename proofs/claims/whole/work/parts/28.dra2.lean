/-! ===== THE DRAFT, 2 (own work): the first fault by cells ===== -/
section XDRA
variable {w : XW} {s n : Nat} {d : Nat → Int}
theorem corOk_bd {r c : Nat} (h : ∀ k, k ≤ c → corOk n d r k) : 0 ≤ d (r * 11 + c) ∧ d (r * 11 + c) ≤ c := by
  induction c with
  | zero => have := (h 0 (Nat.le_refl _)).1 (Or.inr rfl); omega
  | succ c ih =>
    have h1 := ih (fun k hk => h k (by omega))
    have h2 := (h (c + 1) (Nat.le_refl _)).2.2.2.2
    rw [show c + 1 - 1 = c by omega] at h2
    omega
theorem m_isCornerSum (h : dr w s n d) {zi zj : Int} (i j : Nat) (hh : zi = i ∧ zj = j ∧ i ≤ n ∧ j ≤ n) (hp : ∀ r c, (r < i ∨ r = i ∧ c < j) → c ≤ n → corOk n d r c) : xm D_isCornerSum 0 [.ref 4, .int (iI zi), .int (iI zj)] w = some (.int (bI (@decide (corOk n d i j) (Classical.propDecidable _))), w) := by
  obtain ⟨rfl, rfl, hi, hj⟩ := hh
  obtain ⟨hG, hs, hn, e1, e2, hc⟩ := id h
  have cv := (hc (i * 11 + j) (by omega)).2
  have no : ∀ {u : Option XR}, ¬ corOk n d i j → u = some (.int (bI false), w) → u = some (.int (bI (@decide (corOk n d i j) (Classical.propDecidable _))), w) := fun q hu => by rw [@decide_eq_false _ (Classical.propDecidable _) q]; exact hu
  have b1 : i ≠ 0 → 0 ≤ d ((i - 1) * 11 + j) ∧ d ((i - 1) * 11 + j) ≤ j := fun q => corOk_bd (fun k hk => hp (i - 1) k (by omega) (by omega))
  have b2 : j ≠ 0 → 0 ≤ d (i * 11 + (j - 1)) ∧ d (i * 11 + (j - 1)) ≤ (j - 1 : Nat) := fun q => corOk_bd (fun k hk => hp i k (by omega) (by omega))
  rw [e_D_isCornerSum, q_D_isCornerSum_0]
  refine s_g rfl (s_I (m_cell h i j (by omega)) ?_)
  generalize hv : d (i * 11 + j) = v at *
  have p45 : ¬ corOk n d i j → xr D_isCornerSum 0 45 [some (.ref 4), some (.int (iI (i : Int))), some (.int (iI (j : Int))), some (.int (iI v))] [] (0, 0) w = some (.int (bI (@decide (corOk n d i j) (Classical.propDecidable _))), w) := fun q => no q (by rw [q_D_isCornerSum_45, xbz_0])
  have p89 : ¬ corOk n d i j → xr D_isCornerSum 0 89 [some (.ref 4), some (.int (iI (i : Int))), some (.int (iI (j : Int))), some (.int (iI v))] [] (0, 0) w = some (.int (bI (@decide (corOk n d i j) (Classical.propDecidable _))), w) := fun q => no q (by rw [q_D_isCornerSum_89, q_D_isCornerSum_90, xbz_0])
  have p66 : ((i = 0 ∨ j = 0) → v = 0) → (i = n → v = j) → (j = n → v = i) → (i = 0 ∨ v = d ((i - 1) * 11 + j) ∨ v = d ((i - 1) * 11 + j) + 1) → xr D_isCornerSum 0 66 [some (.ref 4), some (.int (iI (i : Int))), some (.int (iI (j : Int))), some (.int (iI v))] [] (0, 0) w = some (.int (bI (@decide (corOk n d i j) (Classical.propDecidable _))), w) := by
    intro k1 k2 k3 k4
    rw [q_D_isCornerSum_66, iI_zero]
    have yes : (j = 0 ∨ v = d (i * 11 + (j - 1)) ∨ v = d (i * 11 + (j - 1)) + 1) → xr D_isCornerSum 0 85 [some (.ref 4), some (.int (iI (i : Int))), some (.int (iI (j : Int))), some (.int (iI v))] [] (0, 0) w = some (.int (bI (@decide (corOk n d i j) (Classical.propDecidable _))), w) := by
      intro k5
      have : corOk n d i j := by unfold corOk; rw [hv]; exact ⟨k1, k2, k3, k4, k5⟩
      rw [q_D_isCornerSum_85, q_D_isCornerSum_90, xbz_1, @decide_eq_true _ (Classical.propDecidable _) this]
    by_cases hj0 : j = 0
    · exact s_eqt (by omega) (yes (Or.inl hj0))
    · have := b2 hj0
      refine s_eqf (by omega) ?_
      rw [iI_sub]
      refine s_g rfl (s_I (m_cell h i (j - 1) (by omega)) (s_I (m_rises (by omega) (by omega) w) ?_))
      by_cases hq : v = d (i * 11 + (j - 1)) ∨ v = d (i * 11 + (j - 1)) + 1
      · exact s_pt hq (yes (Or.inr hq))
      · exact s_pf hq (p89 (fun q => by have := q.2.2.2.2; rw [hv] at this; omega))
  have p47 : ((i = 0 ∨ j = 0) → v = 0) → (i = n → v = j) → (j = n → v = i) → xr D_isCornerSum 0 47 [some (.ref 4), some (.int (iI (i : Int))), some (.int (iI (j : Int))), some (.int (iI v))] [] (0, 0) w = some (.int (bI (@decide (corOk n d i j) (Classical.propDecidable _))), w) := by
    intro k1 k2 k3
    rw [q_D_isCornerSum_47, iI_zero]
    by_cases hi0 : i = 0
    · exact s_eqt (by omega) (p66 k1 k2 k3 (Or.inl hi0))
    · have := b1 hi0
      refine s_eqf (by omega) ?_
      rw [iI_sub]
      refine s_g rfl (s_I (m_cell h (i - 1) j (by omega)) (s_I (m_rises (by omega) (by omega) w) ?_))
      by_cases hq : v = d ((i - 1) * 11 + j) ∨ v = d ((i - 1) * 11 + j) + 1
      · exact s_pt hq (p66 k1 k2 k3 (Or.inr hq))
      · exact s_pf hq (p89 (fun q => by have := q.2.2.2.1; rw [hv] at this; omega))
  have p32 : ((i = 0 ∨ j = 0) → v = 0) → (i = n → v = j) → xr D_isCornerSum 0 32 [some (.ref 4), some (.int (iI (i : Int))), some (.int (iI (j : Int))), some (.int (iI v))] [] (0, 0) w = some (.int (bI (@decide (corOk n d i j) (Classical.propDecidable _))), w) := by
    intro k1 k2
    rw [q_D_isCornerSum_32, e2]
    refine s_g rfl ?_
    by_cases hq : j = n
    · refine s_eqt (by omega) ?_
      by_cases hq2 : v = i
      · exact s_eqt hq2 (p47 k1 k2 (fun _ => hq2))
      · exact s_eqf (by omega) (p45 (fun q => hq2 (by have := q.2.2.1 hq; rwa [hv] at this)))
    · exact s_eqf (by omega) (p47 k1 k2 (fun q => absurd q hq))
  have p19 : ((i = 0 ∨ j = 0) → v = 0) → xr D_isCornerSum 0 19 [some (.ref 4), some (.int (iI (i : Int))), some (.int (iI (j : Int))), some (.int (iI v))] [] (0, 0) w = some (.int (bI (@decide (corOk n d i j) (Classical.propDecidable _))), w) := by
    intro k1
    rw [q_D_isCornerSum_19, e2]
    refine s_g rfl ?_
    by_cases hq : i = n
    · refine s_eqt (by omega) ?_
      by_cases hq2 : v = j
      · exact s_eqt hq2 (p32 k1 (fun _ => hq2))
      · exact s_eqf (by omega) (p45 (fun q => hq2 (by have := q.2.1 hq; rwa [hv] at this)))
    · exact s_eqf (by omega) (p32 k1 (fun q => absurd q hq))
  have p15 : (i = 0 ∨ j = 0) → xr D_isCornerSum 0 15 [some (.ref 4), some (.int (iI (i : Int))), some (.int (iI (j : Int))), some (.int (iI v))] [] (0, 0) w = some (.int (bI (@decide (corOk n d i j) (Classical.propDecidable _))), w) := by
    intro k0
    rw [q_D_isCornerSum_15, iI_zero]
    by_cases hq : v = 0
    · exact s_eqt hq (p19 (fun _ => hq))
    · exact s_eqf (by omega) (p45 (fun q => hq (by have := q.1 k0; rwa [hv] at this)))
  rw [iI_zero]
  by_cases hi0 : i = 0
  · exact s_eqt (by omega) (p15 (Or.inl hi0))
  · refine s_eqf (by omega) ?_
    by_cases hj0 : j = 0
    · exact s_eqt (by omega) (p15 (Or.inr hj0))
    · exact s_eqf (by omega) (p19 (fun q => by omega))
theorem m_isColumn (h : dr w s n d) {zi zj : Int} (i j : Nat) (hh : zi = i ∧ zj = j ∧ 1 ≤ i ∧ i ≤ n ∧ j < i) : xm D_isColumn 0 [.ref 4, .int (iI zi), .int (iI zj)] w = some (.int (bI (@decide (colOk n d i j) (Classical.propDecidable _))), w) := by
  obtain ⟨rfl, rfl, hi1, hi, hj⟩ := hh
  obtain ⟨hG, hs, hn, e1, e2, hc⟩ := id h
  have cv := (hc (i * 11 + j) (by omega)).2
  have no : ∀ {u : Option XR}, ¬ colOk n d i j → u = some (.int (bI false), w) → u = some (.int (bI (@decide (colOk n d i j) (Classical.propDecidable _))), w) := fun q hu => by rw [@decide_eq_false _ (Classical.propDecidable _) q]; exact hu
  rw [e_D_isColumn, q_D_isColumn_0]
  refine s_g rfl (s_I (m_cell h i j (by omega)) (s_g rfl ?_))
  generalize hv : d (i * 11 + j) = v at *
  rw [e2, iI_sub]
  refine s_I (m_isWithin cv (by omega) (by omega) w) ?_
  have p37 : ¬ colOk n d i j → xr D_isColumn 0 37 [some (.ref 4), some (.int (iI (i : Int))), some (.int (iI (j : Int))), some (.int (iI v))] [] (0, 0) w = some (.int (bI (@decide (colOk n d i j) (Classical.propDecidable _))), w) := fun q => no q (by rw [q_D_isColumn_37, xbz_0])
  have p85 : ¬ colOk n d i j → xr D_isColumn 0 85 [some (.ref 4), some (.int (iI (i : Int))), some (.int (iI (j : Int))), some (.int (iI v))] [] (0, 0) w = some (.int (bI (@decide (colOk n d i j) (Classical.propDecidable _))), w) := fun q => no q (by rw [q_D_isColumn_85, q_D_isColumn_86, xbz_0])
  have p81 : colOk n d i j → xr D_isColumn 0 81 [some (.ref 4), some (.int (iI (i : Int))), some (.int (iI (j : Int))), some (.int (iI v))] [] (0, 0) w = some (.int (bI (@decide (colOk n d i j) (Classical.propDecidable _))), w) := fun q => by rw [q_D_isColumn_81, q_D_isColumn_86, xbz_1, @decide_eq_true _ (Classical.propDecidable _) q]
  have p63 : (0 ≤ v ∧ v ≤ (n : Int) - 1) → (j = 0 ∨ d (i * 11 + (j - 1)) < v) → i ≠ 1 → (j = i - 1 ∨ v ≤ d ((i - 1) * 11 + j)) → xr D_isColumn 0 63 [some (.ref 4), some (.int (iI (i : Int))), some (.int (iI (j : Int))), some (.int (iI v))] [] (0, 0) w = some (.int (bI (@decide (colOk n d i j) (Classical.propDecidable _))), w) := by
    intro k1 k2 k3 k4
    rw [q_D_isColumn_63, iI_zero]
    by_cases hj0 : j = 0
    · exact s_eqt (by omega) (p81 (by unfold colOk; rw [hv]; exact ⟨k1, k2, Or.inr ⟨k4, Or.inl hj0⟩⟩))
    · have cb := (hc ((i - 1) * 11 + (j - 1)) (by omega)).2
      refine s_eqf (by omega) ?_
      rw [iI_sub, iI_sub]
      refine s_g rfl (s_I (m_cell h (i - 1) (j - 1) (by omega)) ?_)
      by_cases hq : v < d ((i - 1) * 11 + (j - 1))
      · exact s_ltt (by omega) (p85 (fun q => by have := q.2.2; rw [hv] at this; omega))
      · exact s_ltf (by omega) (p81 (by unfold colOk; rw [hv]; exact ⟨k1, k2, Or.inr ⟨k4, Or.inr (by omega)⟩⟩))
  have p39 : (0 ≤ v ∧ v ≤ (n : Int) - 1) → (j = 0 ∨ d (i * 11 + (j - 1)) < v) → xr D_isColumn 0 39 [some (.ref 4), some (.int (iI (i : Int))), some (.int (iI (j : Int))), some (.int (iI v))] [] (0, 0) w = some (.int (bI (@decide (colOk n d i j) (Classical.propDecidable _))), w) := by
    intro k1 k2
    rw [q_D_isColumn_39]
    by_cases hi0 : i = 1
    · exact s_eqt (by omega) (p81 (by unfold colOk; rw [hv]; exact ⟨k1, k2, Or.inl hi0⟩))
    · refine s_eqf (by omega) ?_
      rw [iI_sub]
      by_cases hj0 : j = i - 1
      · exact s_eqt (by omega) (p63 k1 k2 hi0 (Or.inl hj0))
      · have cb := (hc ((i - 1) * 11 + j) (by omega)).2
        refine s_eqf (by omega) (s_g rfl (s_I (m_cell h (i - 1) j (by omega)) ?_))
        by_cases hq : d ((i - 1) * 11 + j) < v
        · exact s_ltt (by omega) (p85 (fun q => by have := q.2.2; rw [hv] at this; omega))
        · exact s_ltf (by omega) (p63 k1 k2 hi0 (Or.inr (by omega)))
  by_cases h1 : 0 ≤ v ∧ v ≤ (n : Int) - 1
  · refine s_pt h1 ?_
    rw [iI_zero]
    by_cases hj0 : j = 0
    · exact s_let (by omega) (p39 h1 (Or.inl hj0))
    · have cb := (hc (i * 11 + (j - 1)) (by omega)).2
      refine s_lef (by omega) ?_
      rw [iI_sub]
      refine s_g rfl (s_I (m_cell h i (j - 1) (by omega)) ?_)
      by_cases hq : d (i * 11 + (j - 1)) < v
      · exact s_ltt (by omega) (p39 h1 (Or.inr hq))
      · exact s_ltf (by omega) (p37 (fun q => by have := q.2.1; rw [hv] at this; omega))
  · exact s_pf h1 (p37 (fun q => h1 (by have := q.1; rwa [hv] at this)))
theorem m_firstCellFault (h : dr w s n d) (hs0 : s ≠ 0) : xm D_firstCellFault 0 [.ref 4] w = some (.int (iI (faultC s n d)), w) := by
  obtain ⟨hG, hs, hn, e1, e2, hc⟩ := id h
  rw [e_D_firstCellFault, q_D_firstCellFault_0]
  refine x_nest (fun (i : Nat) (_ : Unit) (u : Option Value) => xr D_firstCellFault 0 2 [some (.ref 4), some (.int (iI i)), u] [] (0, 0) w)
    (fun (i j : Nat) (_ : Unit) (_ : Unit) => xr D_firstCellFault 0 12 [some (.ref 4), some (.int (iI i)), some (.int (iI j))] [] (0, 0) w) (n + 1) (fun _ => n + 1)
    (fun i j _ => ∀ r c, (r < i ∨ r = i ∧ c < j) → ¬ cellBad s n d r c) (fun o => o = some (.int (iI (faultC s n d)), w))
    (fun i t u hi hp => ⟨(), ?_⟩) (fun i j t v hi hj hp => ?_) (fun i t v hi hp => ⟨some (.int (iI ((n + 1 : Nat) : Int))), ?_, fun r c hr hb => ?_⟩) (fun t u hp => ?_) () none (fun r c hr _ => by omega)
  · rw [q_D_firstCellFault_2, e2]
    exact s_g rfl (s_ltf (by omega) rfl)
  · have go : ¬ cellBad s n d i j → xr D_firstCellFault 0 12 [some (.ref 4), some (.int (iI i)), some (.int (iI j))] [] (0, 0) w = xr D_firstCellFault 0 69 [some (.ref 4), some (.int (iI i)), some (.int (iI j))] [] (0, 0) w → ∃ (s' : Unit) (v' : Unit), xr D_firstCellFault 0 12 [some (.ref 4), some (.int (iI i)), some (.int (iI j))] [] (0, 0) w = xr D_firstCellFault 0 12 [some (.ref 4), some (.int (iI i)), some (.int (iI ((j + 1 : Nat) : Int)))] [] (0, 0) w ∧ ∀ r c, (r < i ∨ r = i ∧ c < j + 1) → ¬ cellBad s n d r c := by
      intro hb he
      refine ⟨(), (), ?_, fun r c hr => ?_⟩
      · rw [he, q_D_firstCellFault_69, iI_add]; rfl
      · by_cases q : r = i ∧ c = j
        · rw [q.1, q.2]; exact hb
        · exact hp r c (by omega)
    have bad : cellBad s n d i j → xr D_firstCellFault 0 58 [some (.ref 4), some (.int (iI i)), some (.int (iI j))] [] (0, 0) w = some (.int (iI (faultC s n d)), w) := by
      intro hb
      have hF : isF (cellBad s n d) (i, j) := ⟨hb, hp⟩
      unfold faultC
      rw [q_D_firstCellFault_58, frst_some hF]
      simp only [iI_mul, iI_add]
    have head : ∀ x, ((if bI (hasD s n i j) = 0 then xr D_firstCellFault 0 69 [some (.ref 4), some (.int (iI i)), some (.int (iI j))] [] (0, 0) w else xg (xok 4 0) (if (xIF w 4 1) = (iI 1) then xg (xrv (.ref 4) 0) (xbI (xm D_isCornerSum 0 [.ref 4, .int (iI i), .int (iI j)] w) (fun r_4 w_3 => if r_4 = 0 then xr D_firstCellFault 0 58 [some (.ref 4), some (.int (iI i)), some (.int (iI j))] [] (0, 0) w_3 else xr D_firstCellFault 0 69 [some (.ref 4), some (.int (iI i)), some (.int (iI j))] [] (0, 0) w_3)) else xr D_firstCellFault 0 49 [some (.ref 4), some (.int (iI i)), some (.int (iI j))] [] (0, 0) w)) = x) → xr D_firstCellFault 0 12 [some (.ref 4), some (.int (iI i)), some (.int (iI j))] [] (0, 0) w = x := by
      intro x hx
      rw [q_D_firstCellFault_12, e2]
      exact s_g rfl (s_ltf (by omega) (s_g rfl (s_I (m_has h (by omega) (by omega)) hx)))
    match s, hs, hs0, go, bad, head, hp, e1 with
    | 1, _, _, go, bad, head, hp, e1 =>
      have hh : hasD 1 n i j = true := by unfold hasD; simp only [Bool.and_eq_true, decide_eq_true_eq]; omega
      have hq := m_isCornerSum h (zi := (i : Int)) (zj := (j : Int)) i j (by omega) (fun r c hr hcn => Classical.byContradiction (fun q => hp r c hr ⟨⟨by omega, hcn⟩, q⟩))
      by_cases hk : corOk n d i j
      · rw [@decide_eq_true _ (Classical.propDecidable _) hk] at hq
        refine Or.inr (go (fun q => q.2 hk) (head _ (s_bt hh (s_g rfl ?_))))
        rw [e1]
        exact s_eqt rfl (s_g rfl (s_I hq (s_bt rfl rfl)))
      · rw [@decide_eq_false _ (Classical.propDecidable _) hk] at hq
        refine Or.inl (head _ (s_bt hh (s_g rfl ?_)))
        rw [e1]
        exact s_eqt rfl (s_g rfl (s_I hq (s_bf rfl (bad ⟨⟨by omega, by omega⟩, hk⟩))))
    | 2, _, _, go, bad, head, hp, e1 =>
      by_cases hin : 1 ≤ i ∧ j < i
      · have hh : hasD 2 n i j = true := by unfold hasD; simp only [Bool.and_eq_true, decide_eq_true_eq]; omega
        have hq := m_isColumn h (zi := (i : Int)) (zj := (j : Int)) i j (by omega)
        by_cases hk : colOk n d i j
        · rw [@decide_eq_true _ (Classical.propDecidable _) hk] at hq
          refine Or.inr (go (fun q => q.2 hk) (head _ (s_bt hh (s_g rfl ?_))))
          rw [e1]
          refine s_eqf (by omega) ?_
          rw [q_D_firstCellFault_49]
          exact s_g rfl (s_I hq (s_bt rfl rfl))
        · rw [@decide_eq_false _ (Classical.propDecidable _) hk] at hq
          refine Or.inl (head _ (s_bt hh (s_g rfl ?_)))
          rw [e1]
          refine s_eqf (by omega) ?_
          rw [q_D_firstCellFault_49]
          exact s_g rfl (s_I hq (s_bf rfl (bad ⟨⟨by omega, by omega, hin.2⟩, hk⟩)))
      · have hh : hasD 2 n i j = false := by
          rw [← Bool.not_eq_true]; unfold hasD; simp only [Bool.and_eq_true, decide_eq_true_eq]; omega
        exact Or.inr (go (fun q => hin ⟨q.1.1, q.1.2.2⟩) (head _ (s_bf hh rfl)))
  · rw [q_D_firstCellFault_12, e2]
    refine s_g rfl (s_ltt (by omega) ?_)
    rw [q_D_firstCellFault_75, iI_add]; rfl
  · by_cases q : r < i ∨ r = i ∧ c < n + 1
    · exact hp r c q hb
    · match s, hs0, hb with
      | 1, _, hb => have := hb.1; omega
      | k + 2, _, hb => have := hb.1; omega
  · rw [q_D_firstCellFault_2, e2]
    refine s_g rfl (s_ltt (by omega) ?_)
    unfold faultC
    rw [q_D_firstCellFault_81, frst_none (fun r c hb => hp r c (by
      match s, hs0, hb with
      | 1, _, hb => have := hb.1; omega
      | k + 2, _, hb => have := hb.1; omega) hb)]
theorem m_firstFault (h : dr w s n d) : xm D_firstFault 0 [.ref 4] w = some (.int (iI (faultD s n d)), w) := by
  obtain ⟨hG, hs, hn, e1, e2, hc⟩ := id h
  rw [e_D_firstFault, q_D_firstFault_0, e1, iI_zero]
  unfold faultD
  refine s_g rfl ?_
  by_cases h0 : s = 0
  · rw [if_pos h0]
    refine s_eqt (by omega) (s_g rfl (s_I (m_firstLineFault h) ?_))
    rw [q_D_firstFault_18]
  · rw [if_neg h0]
    refine s_eqf (by omega) ?_
    rw [q_D_firstFault_14]
    refine s_g rfl (s_I (m_firstCellFault h h0) ?_)
    rw [q_D_firstFault_18]
end XDRA
