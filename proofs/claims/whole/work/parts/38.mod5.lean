/-! ===== THE REFERENCE, 5 (own work): triangle, kind, less ===== -/
section XMOD
variable {w : XW} {A : AS}
theorem r_rowOf (hG : XG w) {p n : Nat} {C : Nat → Nat → Int} (h : rt w p n C) {z zi : Int} (hz : z = p ∧ p < 8) (i : Nat) (hi : zi = i ∧ i ≤ n) : xm M_rowOf 0 [.ref 34, .int (iI z), .int (iI zi)] w = some (.int (iI ((rowR C i n : Nat) : Int)), w) := by
  have hn := h.1
  obtain ⟨g1, g2, g3⟩ := r_sizes hG h hz
  obtain ⟨rfl, hp⟩ := hz
  obtain ⟨rfl, hi⟩ := hi
  have ule := uC_le h.2.1 hi
  rw [e_M_rowOf, q_M_rowOf_0]
  refine x_loop (fun (k : Nat) (t : Nat) (u : Option Value × Option Value) => xr M_rowOf 0 5 [some (.ref 34), some (.int (iI (p : Int))), some (.int (iI (i : Int))), some (.int (iI (t : Int))), some (.int (iI k)), u.1, u.2] [] (0, 0) w) n
    (fun k t => t = rvO (fun c => (C i (c + 1) - C i c).toNat) k) (fun o => o = some (.int (iI ((rowR C i n : Nat) : Int)), w)) (fun k t u hk hq => Or.inr ⟨rvO (fun c => (C i (c + 1) - C i c).toNat) (k + 1), (some (.int (iI (C i (k + 1) - C i k))), some (.int (iI i))), ?_, rfl⟩) (fun t u hq => ?_) 0 (none, none) rfl
  · have hb := h.2.1.2.2.2.2.2 i k hi hk
    have vl := rvO_lt (u := fun c => (C i (c + 1) - C i c).toNat) (n := k) (fun q hq2 => ule q (by omega))
    rw [q_M_rowOf_5]
    refine s_g rfl (s_o g1 (s_g g2 ?_))
    rw [g3]
    refine s_lef (by omega) ?_
    have inner : xr M_rowOf 0 22 [some (.ref 34), some (.int (iI (p : Int))), some (.int (iI (i : Int))), some (.int (iI (t : Int))), some (.int (iI k)), some (.int (iI 0)), some (.int (iI ((0 : Nat) : Int)))] [] (0, 0) w = xr M_rowOf 0 48 [some (.ref 34), some (.int (iI (p : Int))), some (.int (iI (i : Int))), some (.int (iI (t : Int))), some (.int (iI k)), some (.int (iI (C i (k + 1) - C i k))), some (.int (iI i))] [] (0, 0) w := by
      refine x_loop (fun (r : Nat) (s : Int) (_ : Unit) => xr M_rowOf 0 22 [some (.ref 34), some (.int (iI (p : Int))), some (.int (iI (i : Int))), some (.int (iI (t : Int))), some (.int (iI k)), some (.int (iI s)), some (.int (iI r))] [] (0, 0) w) i
        (fun r s => s = sumF (fun r => dA C r k) r) (fun o => o = xr M_rowOf 0 48 [some (.ref 34), some (.int (iI (p : Int))), some (.int (iI (i : Int))), some (.int (iI (t : Int))), some (.int (iI k)), some (.int (iI (C i (k + 1) - C i k))), some (.int (iI i))] [] (0, 0) w) (fun r s u hr hs => Or.inr ⟨s + dA C r k, (), ?_, by rw [hs]; rfl⟩) (fun s u hs => ?_) 0 () rfl
      · rw [q_M_rowOf_22]
        refine s_lef (by omega) (s_g rfl (s_I (r_a hG h hp r k (by omega)) ?_))
        rw [iI_add, iI_add]; rfl
      · rw [q_M_rowOf_22]
        refine s_let (by omega) ?_
        rw [hs, sumF_dAc, h.2.1.1 (k + 1) (by omega), h.2.1.1 k (by omega), show C i (k + 1) - C i k - (0 - 0) = C i (k + 1) - C i k by omega]
    refine inner.trans ?_
    have e1 : rvO (fun c => (C i (c + 1) - C i c).toNat) (k + 1) = rvO (fun c => (C i (c + 1) - C i c).toNat) k + (C i (k + 1) - C i k).toNat * 2 ^ k := rfl
    rw [q_M_rowOf_48, e1]
    by_cases q : C i (k + 1) - C i k = 1
    · refine s_eqt q ?_
      rw [q_M_rowOf_61, iI_pow (by omega), hq, iI_orp vl (by omega), iI_add, q, show (1 : Int).toNat * 2 ^ k = 2 ^ k by rw [show (1 : Int).toNat = 1 from rfl, Nat.one_mul]]; rfl
    · refine s_eqf (by omega) ?_
      rw [q_M_rowOf_61, hq, iI_add, show (C i (k + 1) - C i k).toNat = 0 by omega, Nat.zero_mul, Nat.add_zero]; rfl
  · rw [q_M_rowOf_5]
    refine s_g rfl (s_o g1 (s_g g2 ?_))
    rw [g3]
    refine s_let (by omega) ?_
    rw [q_M_rowOf_67, hq]; rfl
theorem sumF_u {n : Nat} {C : Nat → Nat → Int} (h : asm n C) {i : Nat} (hi : i ≤ n) : ∀ k, k ≤ n → C i k = sumF (fun c => (((C i (c + 1) - C i c).toNat : Nat) : Int)) k := by
  intro k
  induction k with
  | zero => intro _; exact h.2.1 i hi
  | succ k ih =>
    intro hk
    have := h.2.2.2.2.2 i k hi (by omega)
    show _ = sumF (fun c => (((C i (c + 1) - C i c).toNat : Nat) : Int)) k + (((C i (k + 1) - C i k).toNat : Nat) : Int)
    rw [← ih (by omega)]; omega
theorem r_nth {n : Nat} {C : Nat → Nat → Int} (h : asm n C) (hn : n ≤ 10) {i : Nat} (hi : i ≤ n) {zj : Int} (hj : 0 ≤ zj ∧ zj < 2147483648) : xm M_nth 0 [.int (iI ((rowR C i n : Nat) : Int)), .int (iI zj)] w = some (.int (iI (triC n C i zj)), w) := by
  have ule := uC_le h hi
  have bit : ∀ k : Nat, k < 20 → (iI ((rowR C i n : Nat) : Int) >>> (iI (k : Int) &&& 31)) &&& iI 1 = iI (if k < n then C i (k + 1) - C i k else 0) := by
    intro k hk
    have vl : rowR C i n < 2 ^ n := rvO_lt ule
    have p31 : (2 : Nat) ^ n ≤ 2 ^ 10 := Nat.pow_le_pow_right (by decide) hn
    rw [iI_bit (by omega) (by omega)]
    by_cases q : k < n
    · have hb := h.2.2.2.2.2 i k hi q
      rw [if_pos q, show rowR C i n / 2 ^ k % 2 = (C i (k + 1) - C i k).toNat from rvO_digit ule q, show (((C i (k + 1) - C i k).toNat : Nat) : Int) = C i (k + 1) - C i k by omega]
    · rw [if_neg q, show rowR C i n / 2 ^ k = 0 from rvO_hi ule (by omega)]; rfl
  rw [e_M_nth, q_M_nth_0]
  have cb : ∀ k, k ≤ n → 0 ≤ C i k ∧ C i k ≤ i := fun k hk => h.bd hi hk
  refine x_loop (fun (k : Nat) (t : Int) (_ : Unit) => xr M_nth 0 4 [some (.int (iI ((rowR C i n : Nat) : Int))), some (.int (iI zj)), some (.int (iI t)), some (.int (iI k))] [] (0, 0) w) 20
    (fun k t => (t = zj - C i (if k < n then k else n)) ∧ ∀ q, q < k → q < n → C i (q + 1) ≤ zj) (fun o => o = some (.int (iI (triC n C i zj)), w)) (fun k t u hk hp => ?_) (fun t u hp => ?_) zj () ⟨?_, fun q hq => absurd hq (Nat.not_lt_zero _)⟩
  · obtain ⟨hp1, hp2⟩ := hp
    have ck : C i (if k < n then k else n) ≤ zj := by
      by_cases e : k < n
      · rw [if_pos e]
        by_cases e0 : k = 0
        · rw [e0, h.2.1 i hi]; exact hj.1
        · have := hp2 (k - 1) (by omega) (by omega)
          rwa [show k - 1 + 1 = k by omega] at this
      · rw [if_neg e]
        by_cases e0 : n = 0
        · rw [e0, h.2.1 i hi]; exact hj.1
        · have := hp2 (n - 1) (by omega) (by omega)
          rwa [show n - 1 + 1 = n by omega] at this
    have cbk := cb (if k < n then k else n) (by split <;> omega)
    have next : ∀ t', t' = zj - C i (if k + 1 < n then k + 1 else n) → (k < n → C i (k + 1) ≤ zj) → xr M_nth 0 4 [some (.int (iI ((rowR C i n : Nat) : Int))), some (.int (iI zj)), some (.int (iI t)), some (.int (iI k))] [] (0, 0) w = xr M_nth 0 30 [some (.int (iI ((rowR C i n : Nat) : Int))), some (.int (iI zj)), some (.int (iI t')), some (.int (iI k))] [] (0, 0) w → ∃ (s' : Int) (u' : Unit), xr M_nth 0 4 [some (.int (iI ((rowR C i n : Nat) : Int))), some (.int (iI zj)), some (.int (iI t)), some (.int (iI k))] [] (0, 0) w = xr M_nth 0 4 [some (.int (iI ((rowR C i n : Nat) : Int))), some (.int (iI zj)), some (.int (iI s')), some (.int (iI ((k + 1 : Nat) : Int)))] [] (0, 0) w ∧ s' = zj - C i (if k + 1 < n then k + 1 else n) ∧ ∀ q, q < k + 1 → q < n → C i (q + 1) ≤ zj := by
      intro t' ht hl he
      refine ⟨t', (), ?_, ht, fun q hq hqn => ?_⟩
      · rw [he, q_M_nth_30, iI_add]; rfl
      · by_cases e : q = k
        · subst e; exact hl hqn
        · exact hp2 q (by omega) hqn
    by_cases e : k < n
    · have hb := h.2.2.2.2.2 i k hi e
      have nx : (if k + 1 < n then k + 1 else n) = k + 1 := by split <;> omega
      rw [if_pos e] at hp1 ck cbk
      by_cases q : C i (k + 1) - C i k = 0
      · refine Or.inr (next t (by rw [nx, hp1]; omega) (fun _ => by omega) ?_)
        rw [q_M_nth_4, bit k hk, if_pos e, iI_zero]
        exact s_lef (by omega) (s_eqt q rfl)
      · by_cases q2 : t = 0
        · refine Or.inl ?_
          rw [q_M_nth_4, bit k hk, if_pos e, iI_zero]
          refine s_lef (by omega) (s_eqf (by omega) ?_)
          rw [q_M_nth_21, iI_zero]
          refine s_eqt q2 ?_
          have hf : firstN (fun c => decide (zj < C i (c + 1))) n = k := firstN_at e (decide_eq_true (by omega)) (fun r hr => decide_eq_false (by have := hp2 r hr (by omega); omega))
          unfold triC
          rw [hf, if_pos e]
        · refine Or.inr (next (t + -1) (by rw [nx, hp1]; omega) (fun _ => by omega) ?_)
          rw [q_M_nth_4, bit k hk, if_pos e, iI_zero]
          refine s_lef (by omega) (s_eqf (by omega) ?_)
          rw [q_M_nth_21, iI_zero]
          refine s_eqf (by omega) ?_
          rw [q_M_nth_27, iI_add]
    · have nx : (if k + 1 < n then k + 1 else n) = n := by split <;> omega
      rw [if_neg e] at hp1
      refine Or.inr (next t (by rw [nx, hp1]) (fun z => absurd z e) ?_)
      rw [q_M_nth_4, bit k hk, if_neg e, iI_zero]
      exact s_lef (by omega) (s_eqt rfl rfl)
  · have hf : firstN (fun c => decide (zj < C i (c + 1))) n = n := firstN_all (fun r hr => decide_eq_false (by have := hp.2 r (by omega) hr; omega))
    rw [q_M_nth_4]
    refine s_let (by omega) ?_
    unfold triC
    rw [q_M_nth_36, hf, if_neg (Nat.lt_irrefl _)]
  · by_cases e : 0 < n
    · rw [if_pos e, h.2.1 i hi]; omega
    · rw [if_neg e, show n = 0 by omega, h.2.1 i hi]; omega
theorem r_tri (h : IM w A) {z zi zj : Int} (hz : i32 z) (hi : i32 zi) (hj : i32 zj) : ∃ w', xm M_triangle 0 [.ref 34, .int (iI z), .int (iI zi), .int (iI zj)] w = some (.int (iI (o_tri A z zi zj)), w') ∧ IM w' A ∧ mFr w w' := by
  have h0 := IM_F (k := 0) (v := iI 0) h (by decide)
  refine ⟨_, ?_, h0, mFr_F (by decide)⟩
  rw [e_M_triangle, q_M_triangle_0]
  have no : ¬ ((0 ≤ z ∧ z < 8) ∧ (1 ≤ zi ∧ zi ≤ (A.1 z.toNat : Int)) ∧ (0 ≤ zj ∧ zj ≤ zi - 1)) → xr M_triangle 0 27 [some (.ref 34), some (.int (iI z)), some (.int (iI zi)), some (.int (iI zj))] [] (0, 0) (xpF w 34 0 (iI 0)) = some (.int (iI (o_tri A z zi zj)), xpF w 34 0 (iI 0)) := fun q => by
    unfold o_tri
    rw [q_M_triangle_27, if_neg q]
  refine s_g rfl (s_I (r_knows hz) ?_)
  by_cases h1 : 0 ≤ z ∧ z < 8
  · have t := h0.2.1 z.toNat (by omega)
    have tn := t.1
    obtain ⟨g1, g2, g3⟩ := r_sizes h0.1 t (z := z) (by omega)
    refine s_pt h1 ?_
    by_cases h2 : zi < 1
    · exact s_ltt (by omega) (no (by omega))
    · refine s_ltf (by omega) (s_g rfl (s_o g1 (s_g g2 ?_)))
      rw [g3]
      by_cases h3 : (A.1 z.toNat : Int) < zi
      · exact s_ltt (by omega) (no (by omega))
      · refine s_ltf (by omega) ?_
        rw [iI_zero]
        by_cases h4 : 0 ≤ zj
        · refine s_let (by omega) ?_
          rw [q_M_triangle_29]
          refine s_g rfl (s_I (r_rowOf h0.1 t (by omega) zi.toNat (by omega)) (s_I (r_nth t.2.1 tn.2 (by omega) (by omega)) ?_))
          unfold o_tri
          by_cases h5 : zj ≤ zi - 1
          · rw [if_pos (by omega)]
          · rw [if_neg (by omega)]
            have hf : firstN (fun c => decide (zj < A.2.1 z.toNat zi.toNat (c + 1))) (A.1 z.toNat) = A.1 z.toNat := firstN_all (fun r hr => decide_eq_false (by have := t.2.1.bd (i := zi.toNat) (j := r + 1) (by omega) (by omega); omega))
            unfold triC
            rw [hf, if_neg (Nat.lt_irrefl _)]
        · exact s_lef (by omega) (no (by omega))
  · exact s_pf h1 (no (fun q => h1 q.1))
theorem r_lessOf (hG : XG w) {p n : Nat} {C : Nat → Nat → Int} (h : rt w p n C) {z : Int} (hz : z = p ∧ p < 8) : xm M_lessOf 0 [.ref 34, .int (iI z)] w = some (.int (iI (lessC n C)), w) := by
  have hn := h.1
  obtain ⟨g1, g2, g3⟩ := r_sizes hG h hz
  rw [e_M_lessOf, q_M_lessOf_0]
  refine x_nest (fun (i : Nat) (s : Int) (u : Option Value) => xr M_lessOf 0 4 [some (.ref 34), some (.int (iI z)), some (.int (iI s)), some (.int (iI i)), u] [] (0, 0) w)
    (fun (i j : Nat) (s : Int) (_ : Unit) => xr M_lessOf 0 17 [some (.ref 34), some (.int (iI z)), some (.int (iI s)), some (.int (iI i)), some (.int (iI j))] [] (0, 0) w) n (fun _ => n)
    (fun i j s => s = sumF (fun i => sumF (fun j => if dA C i j = -1 then 1 else 0) n) i + sumF (fun j => if dA C i j = -1 then 1 else 0) j) (fun o => o = some (.int (iI (lessC n C)), w))
    (fun i s u hi hp => ⟨(), ?_⟩) (fun i j s v hi hj hp => Or.inr ⟨s + (if dA C i j = -1 then 1 else 0), (), ?_, ?_⟩) (fun i s v hi hp => ⟨some (.int (iI n)), ?_, ?_⟩) (fun s u hp => ?_) 0 none rfl
  · rw [q_M_lessOf_4]
    refine s_g rfl (s_o g1 (s_g g2 ?_))
    rw [g3]
    exact s_lef (by omega) rfl
  · have b1 := dA_bd h.2.1 hi hj
    rw [q_M_lessOf_17]
    refine s_g rfl (s_o g1 (s_g g2 ?_))
    rw [g3]
    refine s_lef (by omega) (s_g rfl (s_I (r_a hG h hz.2 i j (by omega)) ?_))
    by_cases hd : dA C i j = -1
    · refine s_eqt hd ?_
      rw [q_M_lessOf_46, iI_add, iI_add, if_pos hd]; rfl
    · refine s_eqf (by omega) ?_
      rw [q_M_lessOf_45, q_M_lessOf_46, iI_add, iI_add, if_neg hd]; rfl
  · rw [hp, Int.add_assoc]; rfl
  · rw [q_M_lessOf_17]
    refine s_g rfl (s_o g1 (s_g g2 ?_))
    rw [g3]
    refine s_let (by omega) ?_
    rw [q_M_lessOf_54, iI_add]; rfl
  · rw [hp]; exact (Int.add_zero _).symm
  · rw [q_M_lessOf_4]
    refine s_g rfl (s_o g1 (s_g g2 ?_))
    rw [g3]
    refine s_let (by omega) ?_
    rw [q_M_lessOf_60, hp, show sumF (fun j => if dA C n j = -1 then 1 else 0) 0 = 0 from rfl, Int.add_zero]; rfl
theorem r_less (h : IM w A) {z : Int} (hz : i32 z) : ∃ w', xm M_less 0 [.ref 34, .int (iI z)] w = some (.int (iI (o_less A z)), w') ∧ IM w' A ∧ mFr w w' := by
  have h0 := IM_F (k := 0) (v := iI 0) h (by decide)
  refine ⟨_, ?_, h0, mFr_F (by decide)⟩
  rw [e_M_less, q_M_less_0]
  unfold o_less
  refine s_g rfl (s_I (r_knows hz) ?_)
  by_cases h1 : 0 ≤ z ∧ z < 8
  · refine s_pt h1 (s_g rfl (s_I (r_lessOf h0.1 (h0.2.1 z.toNat (by omega)) (by omega)) ?_))
    rw [q_M_less_17, if_pos h1]
  · refine s_pf h1 ?_
    rw [q_M_less_16, q_M_less_17, if_neg h1]
/-- the reference's number of a move, among the class's -/
def stK (k : Nat) : Nat := match k with
  | 0 => 1
  | 1 => 3
  | _ => 0
theorem r_stays (hG : XG w) {p n : Nat} {C : Nat → Nat → Int} (h : rt w p n C) {z zk : Int} (hz : z = p ∧ p < 8) (k : Nat) (hk : zk = k ∧ k < 3) : xm M_stays 0 [.ref 34, .int (iI z), .int (iI zk)] w = some (.int (bI (staysC n C (stK k))), w) := by
  have hn := h.1
  obtain ⟨g1, g2, g3⟩ := r_sizes hG h hz
  obtain ⟨rfl, hk⟩ := hk
  rw [e_M_stays, q_M_stays_0]
  refine s_g rfl (s_o g1 (s_g g2 ?_))
  rw [g3]
  refine x_nest (fun (i : Nat) (b : Bool) (u : Option Value × Option Value) => xr M_stays 0 13 [some (.ref 34), some (.int (iI z)), some (.int (iI (k : Int))), some (.int (iI (n : Int))), some (.int (bI b)), some (.int (iI i)), u.1, u.2] [] (0, 0) w)
    (fun (i j : Nat) (b : Bool) (u : Option Value) => xr M_stays 0 22 [some (.ref 34), some (.int (iI z)), some (.int (iI (k : Int))), some (.int (iI (n : Int))), some (.int (bI b)), some (.int (iI i)), some (.int (iI j)), u] [] (0, 0) w) n (fun _ => n)
    (fun i j b => b = true ↔ ((∀ r, r < i → ∀ c, c < n → dA C r c = movE n C (stK k) r c) ∧ ∀ c, c < j → dA C i c = movE n C (stK k) i c)) (fun o => o = some (.int (bI (staysC n C (stK k))), w))
    (fun i s u hi hp => ⟨u.2, ?_⟩) (fun i j b v hi hj hp => Or.inr ?_) (fun i s v hi hp => ⟨(some (.int (iI n)), v), ?_, ?_⟩) (fun b u hp => ?_) true (none, none) ⟨fun _ => ⟨fun r hr => absurd hr (Nat.not_lt_zero _), fun c hc => absurd hc (Nat.not_lt_zero _)⟩, fun _ => rfl⟩
  · rw [q_M_stays_13]
    exact s_lef (by omega) rfl
  · have b1 := dA_bd h.2.1 hi hj
    have b2 := movE_bd (m := stK k) h.2.1 hi hj
    have run : ∀ x, xr M_stays 0 86 [some (.ref 34), some (.int (iI z)), some (.int (iI (k : Int))), some (.int (iI (n : Int))), some (.int (bI b)), some (.int (iI i)), some (.int (iI j)), v] [.int (iI (movE n C (stK k) i j))] (0, 0) w = x → xr M_stays 0 22 [some (.ref 34), some (.int (iI z)), some (.int (iI (k : Int))), some (.int (iI (n : Int))), some (.int (bI b)), some (.int (iI i)), some (.int (iI j)), v] [] (0, 0) w = x := by
      intro x hx
      rw [q_M_stays_22, iI_zero]
      refine s_lef (by omega) ?_
      simp only [iI_sub]
      match k, hk, hx with
      | 0, _, hx => exact s_eqt rfl (s_g rfl (s_I (r_a hG h hz.2 (n - 1 - j) i (by omega)) hx))
      | 1, _, hx =>
        refine s_eqf (by omega) ?_
        rw [q_M_stays_48]
        simp only [iI_sub]
        exact s_eqt rfl (s_g rfl (s_I (r_a hG h hz.2 (n - 1 - i) (n - 1 - j) (by omega)) hx))
      | 2, _, hx =>
        refine s_eqf (by omega) ?_
        rw [q_M_stays_48]
        refine s_eqf (by omega) ?_
        rw [q_M_stays_73]
        simp only [iI_sub]
        exact s_g rfl (s_I (r_a hG h hz.2 i (n - 1 - j) (by omega)) hx)
    refine ⟨b && decide (dA C i j = movE n C (stK k) i j), some (.int (iI (movE n C (stK k) i j))), run _ ?_, ?_⟩
    · rw [q_M_stays_86]
      cases b with
      | true =>
        refine s_bt rfl (s_g rfl (s_I (r_a hG h hz.2 i j (by omega)) ?_))
        by_cases hd : dA C i j = movE n C (stK k) i j
        · refine s_eqt hd.symm ?_
          rw [q_M_stays_112, iI_add, decide_eq_true hd]; rfl
        · refine s_eqf (by omega) ?_
          rw [q_M_stays_111, q_M_stays_112, iI_add, decide_eq_false hd]; rfl
      | false =>
        refine s_bf rfl ?_
        rw [q_M_stays_111, q_M_stays_112, iI_add]; rfl
    · rw [Bool.and_eq_true, hp, decide_eq_true_eq]
      constructor
      · intro ⟨⟨a1, a2⟩, a3⟩
        refine ⟨a1, fun c hc => ?_⟩
        by_cases e : c = j
        · rw [e]; exact a3
        · exact a2 c (by omega)
      · intro ⟨a1, a2⟩
        exact ⟨⟨a1, fun c hc => a2 c (by omega)⟩, a2 j (by omega)⟩
  · rw [q_M_stays_22]
    refine s_let (by omega) ?_
    rw [q_M_stays_120, iI_add]; rfl
  · rw [hp]
    constructor
    · intro ⟨a1, a2⟩
      refine ⟨fun r hr c hc => ?_, fun c hc => absurd hc (Nat.not_lt_zero _)⟩
      by_cases e : r = i
      · rw [e]; exact a2 c hc
      · exact a1 r (by omega) c hc
    · intro ⟨a1, _⟩
      exact ⟨fun r hr => a1 r (by omega), fun c hc => a1 i (by omega) c hc⟩
  · rw [q_M_stays_13]
    refine s_let (by omega) ?_
    rw [q_M_stays_126, xbz_b]
    have : b = staysC n C (stK k) := by
      rw [Bool.eq_iff_iff, hp]
      unfold staysC
      rw [decide_eq_true_eq]
      exact ⟨fun q => q.1, fun q => ⟨q, fun c hc => absurd hc (Nat.not_lt_zero _)⟩⟩
    rw [this]
theorem r_kind (h : IM w A) {z : Int} (hz : i32 z) : ∃ w', xm M_kind 0 [.ref 34, .int (iI z)] w = some (.int (iI (o_kind A z)), w') ∧ IM w' A ∧ mFr w w' := by
  have h0 := IM_F (k := 0) (v := iI 0) h (by decide)
  refine ⟨_, ?_, h0, mFr_F (by decide)⟩
  rw [e_M_kind, q_M_kind_0]
  unfold o_kind
  refine s_g rfl (s_I (r_knows hz) ?_)
  by_cases h1 : 0 ≤ z ∧ z < 8
  · have t := h0.2.1 z.toNat (by omega)
    have lb := lessC_bd t.1.2 (A.2.1 z.toNat)
    have st := fun (k : Nat) (hk : k < 3) => r_stays h0.1 t (z := z) (zk := (k : Int)) (by omega) k ⟨rfl, hk⟩
    refine s_pt h1 ?_
    rw [q_M_kind_10, if_pos h1]
    refine s_g rfl (s_I (r_lessOf h0.1 t (by omega)) ?_)
    unfold kindC
    rw [iI_zero]
    by_cases q0 : lessC (A.1 z.toNat) (A.2.1 z.toNat) = 0
    · refine s_eqt q0 ?_
      rw [if_pos q0]
    · refine s_eqf (by omega) ?_
      rw [if_neg q0, q_M_kind_20, q_M_kind_22]
      refine s_lef (by omega) (s_g rfl (s_I (st 0 (by decide)) ?_))
      show (if bI (staysC (A.1 z.toNat) (A.2.1 z.toNat) 1) = 0 then _ else _) = _
      cases staysC (A.1 z.toNat) (A.2.1 z.toNat) 1 with
      | true => exact s_bt rfl rfl
      | false =>
        refine s_bf rfl ?_
        rw [q_M_kind_40, iI_add, q_M_kind_22]
        refine s_lef (by omega) (s_g rfl (s_I (st 1 (by decide)) ?_))
        show (if bI (staysC (A.1 z.toNat) (A.2.1 z.toNat) 3) = 0 then _ else _) = _
        cases staysC (A.1 z.toNat) (A.2.1 z.toNat) 3 with
        | true => exact s_bt rfl rfl
        | false =>
          refine s_bf rfl ?_
          rw [q_M_kind_40, iI_add, q_M_kind_22]
          refine s_lef (by omega) (s_g rfl (s_I (st 2 (by decide)) ?_))
          show (if bI (staysC (A.1 z.toNat) (A.2.1 z.toNat) 0) = 0 then _ else _) = _
          cases staysC (A.1 z.toNat) (A.2.1 z.toNat) 0 with
          | true => exact s_bt rfl rfl
          | false =>
            refine s_bf rfl ?_
            rw [q_M_kind_40, iI_add, q_M_kind_22]
            refine s_let (by omega) ?_
            rw [q_M_kind_46]; rfl
  · refine s_pf h1 ?_
    rw [if_neg h1]
end XMOD
