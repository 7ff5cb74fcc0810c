/-! ===== TABLES, 3 (own work): bits; rows; the first place by rows ===== -/
theorem iI_nI (n : Nat) : iI (n : Int) = nI n := Int32.toBitVec_inj.1 (by
  show BitVec.ofInt 32 (n : Int) = BitVec.ofNat 32 n
  exact BitVec.ofInt_natCast 32 n)
theorem sm32 : ∀ s, s < 32 → ((nI s &&& 31).toBitVec.smod 32).toNat = s := by decide
theorem iI_shr {v s : Nat} (hv : v < 2147483648) (hs : s < 32) : iI (v : Int) >>> (iI (s : Int) &&& 31) = iI ((v / 2 ^ s : Nat) : Int) := by
  rw [iI_nI, iI_nI, iI_nI]
  exact pk_shrN hv _ s (sm32 s hs)
theorem iI_shl {v s : Nat} (hs : s < 32) (h : v * 2 ^ s < 4294967296) : iI (v : Int) <<< (iI (s : Int) &&& 31) = iI ((v * 2 ^ s : Nat) : Int) := by
  rw [iI_nI, iI_nI, iI_nI]
  exact pk_shlN _ s (sm32 s hs) h
theorem iI_bit {v s : Nat} (hv : v < 2147483648) (hs : s < 32) : (iI (v : Int) >>> (iI (s : Int) &&& 31)) &&& iI 1 = iI ((v / 2 ^ s % 2 : Nat) : Int) := by
  rw [iI_shr hv hs, iI_and1]
  congr 1
def isF (p : Nat → Nat → Prop) (q : Nat × Nat) : Prop := p q.1 q.2 ∧ ∀ r c, (r < q.1 ∨ r = q.1 ∧ c < q.2) → ¬ p r c
noncomputable def frst (p : Nat → Nat → Prop) : Option (Nat × Nat) := @dite _ (∃ q, isF p q) (Classical.propDecidable _) (fun h => some (Classical.choose h)) (fun _ => none)
theorem isF_uniq {p : Nat → Nat → Prop} {q q' : Nat × Nat} (h : isF p q) (h' : isF p q') : q = q' := by
  obtain ⟨i, j⟩ := q
  obtain ⟨i', j'⟩ := q'
  have h1 : ¬ (i < i' ∨ i = i' ∧ j < j') := fun z => h'.2 i j z h.1
  have h2 : ¬ (i' < i ∨ i' = i ∧ j' < j) := fun z => h.2 i' j' z h'.1
  have e1 : i = i' := by omega
  have e2 : j = j' := by omega
  rw [e1, e2]
theorem frst_some {p : Nat → Nat → Prop} {q : Nat × Nat} (h : isF p q) : frst p = some q := by
  have hx : ∃ q, isF p q := ⟨q, h⟩
  unfold frst
  rw [dif_pos hx, isF_uniq (Classical.choose_spec hx) h]
theorem frst_none {p : Nat → Nat → Prop} (h : ∀ r c, ¬ p r c) : frst p = none := by
  unfold frst
  exact dif_neg (fun ⟨q, hq⟩ => h _ _ hq.1)
theorem tb.fr {w w1 : XW} {a n : Nat} {C : Nat → Nat → Int} {S : Nat → Bool} (h : tb w a n C) (f : xFr S w w1) (h1 : S a = false) (h2 : S (a + 1) = false) : tb w1 a n C := by
  have hl := h.1.lt
  exact ⟨h.1, f.G h.2.1, h.2.2.1, by rw [f.f (by omega) h1]; exact h.2.2.2.1, h.2.2.2.2.1, by rw [f.a (by omega) h2]; exact h.2.2.2.2.2⟩
theorem asm_up {n i j : Nat} {C : Nat → Nat → Int} {d : Int} (h : asm n C) (hh : 1 ≤ i ∧ i < n ∧ 1 ≤ j ∧ j < n) (hc : canS C i j d = true) : asm n (upC C i j (C i j + d)) := by
  obtain ⟨c1, c2, c3, c4⟩ := of_decide_eq_true hc
  obtain ⟨g1, g2, g3, g4, g5, g6⟩ := h
  refine ⟨fun c hc => ?_, fun r hr => ?_, fun c hc => ?_, fun r hr => ?_, fun r c hr hc => ?_, fun r c hr hc => ?_⟩
  · unfold upC; rw [if_neg (by omega)]; exact g1 c hc
  · unfold upC; rw [if_neg (by omega)]; exact g2 r hr
  · unfold upC; rw [if_neg (by omega)]; exact g3 c hc
  · unfold upC; rw [if_neg (by omega)]; exact g4 r hr
  · have g := g5 r c hr hc
    unfold upC
    by_cases e1 : r = i ∧ c = j
    · rw [if_pos e1, if_neg (by omega)]
      obtain ⟨rfl, rfl⟩ := e1
      omega
    · rw [if_neg e1]
      by_cases e2 : r + 1 = i ∧ c = j
      · rw [if_pos e2]
        obtain ⟨e2, rfl⟩ := e2
        rw [show i - 1 = r by omega] at c1
        omega
      · rw [if_neg e2]; exact g
  · have g := g6 r c hr hc
    unfold upC
    by_cases e1 : r = i ∧ c = j
    · rw [if_pos e1, if_neg (by omega)]
      obtain ⟨rfl, rfl⟩ := e1
      omega
    · rw [if_neg e1]
      by_cases e2 : r = i ∧ c + 1 = j
      · rw [if_pos e2]
        obtain ⟨rfl, e2⟩ := e2
        rw [show j - 1 = c by omega] at c2
        omega
      · rw [if_neg e2]; exact g
def sg (x : Int) : Int := if 0 < x then 1 else -1
theorem sg_or (x : Int) : sg x = 1 ∨ sg x = -1 := by unfold sg; split <;> omega
def towP (n : Nat) (C D : Nat → Nat → Int) (i j : Nat) : Prop := (1 ≤ i ∧ i < n ∧ 1 ≤ j ∧ j < n) ∧ D i j ≠ C i j ∧ canS C i j (sg (D i j - C i j)) = true
section XTAB
variable {w : XW} {a n : Nat} {C : Nat → Nat → Int}
theorem tb_up {i j : Nat} {d : Int} (h : tb w a n C) (hh : 1 ≤ i ∧ i < n ∧ 1 ≤ j ∧ j < n) (hc : canS C i j d = true) : tb (xpI w (a + 1) (i * 11 + j) (iI (C i j + d))) a n (upC C i j (C i j + d)) := by
  have hn := h.2.2.1
  have f : xFr (fun q => q == a + 1) w (xpI w (a + 1) (i * 11 + j) (iI (C i j + d))) := fr_pI (beq_self_eq_true _)
  refine ⟨h.1, f.G h.2.1, h.2.2.1, h.2.2.2.1, asm_up h.2.2.2.2.1 hh hc, fun r c hr hc => ?_⟩
  rw [a_pI, if_pos rfl]
  unfold upC
  by_cases e : r = i ∧ c = j
  · rw [if_pos e, if_pos (by omega)]
  · rw [if_neg e, if_neg (by omega)]; exact h.2.2.2.2.2 r c hr hc
theorem m_stepToward {b : Nat} {D : Nat → Nat → Int} (h : tb w a n C) (g : tb w b n D) : xm T_stepToward 0 [.ref a, .ref b] w = (match frst (towP n C D) with
    | some (i, j) => some (.int (iI (100 * (i : Int) + j)), xpI w (a + 1) (i * 11 + j) (iI (C i j + sg (D i j - C i j))))
    | none => some (.int (iI (-1)), w)) := by
  have hn := h.2.2.1
  rw [e_T_stepToward, q_T_stepToward_0]
  refine x_nest (fun (i : Nat) (_ : Unit) (u : Option Value × Option Value) => xr T_stepToward 0 2 [some (.ref a), some (.ref b), some (.int (iI ((i : Int) + 1))), u.1, u.2] [] (0, 0) w)
    (fun (i j : Nat) (_ : Unit) (u : Option Value) => xr T_stepToward 0 12 [some (.ref a), some (.ref b), some (.int (iI ((i : Int) + 1))), some (.int (iI ((j : Int) + 1))), u] [] (0, 0) w) (n - 1) (fun _ => n - 1)
    (fun i j _ => ∀ r c, (r < i + 1 ∨ r = i + 1 ∧ c < j + 1) → ¬ towP n C D r c) (fun o => o = _)
    (fun i s u hi hp => ⟨u.2, ?_⟩) (fun i j s v hi hj hp => ?_) (fun i s v hi hp => ⟨(some (.int (iI n)), v), ?_, fun r c hr ht => ?_⟩) (fun s u hp => ?_) () (none, none) (fun r c hr ht => by have := ht.1; omega)
  · rw [q_T_stepToward_2, h.2.2.2.1]
    exact s_g (T_ok h.1) (s_lef (by omega) rfl)
  · have b1 := h.2.2.2.2.1.bd (i := i + 1) (j := j + 1) (by omega) (by omega)
    have b2 := g.2.2.2.2.1.bd (i := i + 1) (j := j + 1) (by omega) (by omega)
    have step : ∀ u' : Option Value, ¬ towP n C D (i + 1) (j + 1) → xr T_stepToward 0 12 [some (.ref a), some (.ref b), some (.int (iI ((i : Int) + 1))), some (.int (iI ((j : Int) + 1))), v] [] (0, 0) w = xr T_stepToward 0 12 [some (.ref a), some (.ref b), some (.int (iI ((i : Int) + 1))), some (.int (iI ((j : Int) + 1) + iI 1)), u'] [] (0, 0) w → ∃ (s' : Unit) (v' : Option Value), xr T_stepToward 0 12 [some (.ref a), some (.ref b), some (.int (iI ((i : Int) + 1))), some (.int (iI ((j : Int) + 1))), v] [] (0, 0) w = xr T_stepToward 0 12 [some (.ref a), some (.ref b), some (.int (iI ((i : Int) + 1))), some (.int (iI (((j + 1 : Nat) : Int) + 1))), v'] [] (0, 0) w ∧ ∀ r c, (r < i + 1 ∨ r = i + 1 ∧ c < j + 1 + 1) → ¬ towP n C D r c := by
      intro u' hno he
      refine ⟨(), u', ?_, fun r c hr => ?_⟩
      · rw [he, iI_add]; rfl
      · by_cases q : r = i + 1 ∧ c = j + 1
        · rw [q.1, q.2]; exact hno
        · exact hp r c (by omega)
    by_cases h0 : D (i + 1) (j + 1) = C (i + 1) (j + 1)
    · refine Or.inr (step (some (.int (iI (D (i + 1) (j + 1) - C (i + 1) (j + 1))))) (fun q => q.2.1 h0) ?_)
      rw [q_T_stepToward_12, h.2.2.2.1]
      refine s_g (T_ok h.1) (s_lef (by omega) (s_g (T_rv g.1) (s_I (m_corner g (i + 1) (j + 1) (by omega)) (s_g (T_rv h.1) (s_I (m_corner h (i + 1) (j + 1) (by omega)) ?_)))))
      rw [iI_sub, iI_zero]
      refine s_eqt (by omega) ?_
      rw [q_T_stepToward_66]
    · have hsh := m_shift h (zi := (i : Int) + 1) (zj := (j : Int) + 1) (i + 1) (j + 1) (by omega) (sg_or (D (i + 1) (j + 1) - C (i + 1) (j + 1)))
      have run : ∀ x : Option XR, (xr T_stepToward 0 53 [some (.ref a), some (.ref b), some (.int (iI ((i : Int) + 1))), some (.int (iI ((j : Int) + 1))), some (.int (iI (D (i + 1) (j + 1) - C (i + 1) (j + 1))))] [.int (iI (sg (D (i + 1) (j + 1) - C (i + 1) (j + 1)))), .int (iI ((j : Int) + 1)), .int (iI ((i : Int) + 1)), .ref a] (0, 0) w = x) → xr T_stepToward 0 12 [some (.ref a), some (.ref b), some (.int (iI ((i : Int) + 1))), some (.int (iI ((j : Int) + 1))), v] [] (0, 0) w = x := by
        intro x hx
        rw [q_T_stepToward_12, h.2.2.2.1]
        refine s_g (T_ok h.1) (s_lef (by omega) (s_g (T_rv g.1) (s_I (m_corner g (i + 1) (j + 1) (by omega)) (s_g (T_rv h.1) (s_I (m_corner h (i + 1) (j + 1) (by omega)) ?_)))))
        rw [iI_sub, iI_zero]
        refine s_eqf (by omega) ?_
        unfold sg at hx
        by_cases hq : 0 < D (i + 1) (j + 1) - C (i + 1) (j + 1)
        · rw [if_pos hq] at hx
          exact s_lef (by omega) hx
        · rw [if_neg hq] at hx
          refine s_let (by omega) ?_
          rw [q_T_stepToward_52]; exact hx
      cases hc : canS C (i + 1) (j + 1) (sg (D (i + 1) (j + 1) - C (i + 1) (j + 1))) with
      | true =>
        have hF : isF (towP n C D) (i + 1, j + 1) := ⟨⟨by omega, h0, hc⟩, hp⟩
        refine Or.inl (run _ ?_)
        rw [hc, if_pos rfl] at hsh
        rw [q_T_stepToward_53, frst_some hF]
        refine s_g (T_rv h.1) (s_I hsh (s_bt rfl ?_))
        rw [iI_mul, iI_add]; rfl
      | false =>
        rw [hc, if_neg (by decide)] at hsh
        refine Or.inr (step (some (.int (iI (D (i + 1) (j + 1) - C (i + 1) (j + 1))))) (fun q => by rw [q.2.2] at hc; cases hc) (run _ ?_))
        rw [q_T_stepToward_53]
        refine s_g (T_rv h.1) (s_I hsh (s_bf rfl ?_))
        rw [q_T_stepToward_66]
  · have e : ((n - 1 : Nat) : Int) + 1 = n := by omega
    rw [e, q_T_stepToward_12, h.2.2.2.1]
    refine s_g (T_ok h.1) (s_let (by omega) ?_)
    rw [q_T_stepToward_72, iI_add]; rfl
  · by_cases q : r < i + 1 ∨ r = i + 1 ∧ c < n - 1 + 1
    · exact hp r c q ht
    · have := ht.1; omega
  · have e : ((n - 1 : Nat) : Int) + 1 = n := by omega
    rw [e, q_T_stepToward_2, h.2.2.2.1]
    refine s_g (T_ok h.1) (s_let (by omega) ?_)
    rw [q_T_stepToward_78, frst_none (fun r c ht => hp r c (by have := ht.1; omega) ht)]
end XTAB
