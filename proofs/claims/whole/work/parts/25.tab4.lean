/-! ===== TABLES, 4 (own work): comparisons of two; turning; copies, extremes, moved tables; rows as bits ===== -/
def belowC (n : Nat) (C D : Nat → Nat → Int) : Bool := decide (∀ i, i < n + 1 → ∀ j, j < n + 1 → D i j ≤ C i j)
def absI (x : Int) : Int := if 0 ≤ x then x else -x
def apartC (n : Nat) (C D : Nat → Nat → Int) : Int := sumF (fun i => sumF (fun j => absI (C i j - D i j)) (n + 1)) (n + 1)
def turn1 (C : Nat → Nat → Int) (i j par : Nat) : Nat → Nat → Int := if (i + j) % 2 = par then (if canS C i j 1 = true then upC C i j (C i j + 1) else if canS C i j (-1) = true then upC C i j (C i j + -1) else C) else C
def tJ (C : Nat → Nat → Int) (par i : Nat) : Nat → Nat → Nat → Int
  | 0 => C
  | j + 1 => turn1 (tJ C par i j) i (j + 1) par
def tI (n : Nat) (C : Nat → Nat → Int) (par : Nat) : Nat → Nat → Nat → Int
  | 0 => C
  | i + 1 => tJ (tI n C par i) par (i + 1) (n - 1)
def turnC (n : Nat) (C : Nat → Nat → Int) (par : Nat) : Nat → Nat → Int := tI n C par (n - 1)
def zr (w : XW) (a : Nat) : Prop := ∀ k, k ≤ 10 → xIA w (a + 1) k = iI 0 ∧ xIA w (a + 1) (k * 11) = iI 0
theorem zr.fr {w w1 : XW} {a : Nat} {S : Nat → Bool} (h : zr w a) (ha : isT a) (f : xFr S w w1) (h2 : S (a + 1) = false) : zr w1 a := by
  have := ha.lt
  intro k hk
  rw [f.a (by omega) h2]
  exact h k hk
theorem zr_up {w : XW} {a i j : Nat} {v : Int32} (h : zr w a) (hh : 1 ≤ i ∧ 1 ≤ j ∧ j ≤ 10) : zr (xpI w (a + 1) (i * 11 + j) v) a := by
  intro k hk
  rw [a_pI, a_pI, if_pos rfl, if_pos rfl, if_neg (by omega), if_neg (by omega)]
  exact h k hk
def bt (n v k : Nat) : Int := ((v / 2 ^ (n - 1 - k) % 2 : Nat) : Int)
def rowB (C : Nat → Nat → Int) (i : Nat) : Nat → Int
  | 0 => 0
  | k + 1 => 2 * rowB C i k + (C i (k + 1) - C i k)
def triC (n : Nat) (C : Nat → Nat → Int) (i : Nat) (zj : Int) : Int := if firstN (fun c => decide (zj < C i (c + 1))) n < n then (firstN (fun c => decide (zj < C i (c + 1))) n : Nat) else -1
def mx (g : Bool) (x y : Int32) : Int32 := match g with
  | true => if x < y then y else x
  | false => if y < x then y else x
def mxC (g : Bool) (C D : Nat → Nat → Int) (i j : Nat) : Int := match g with
  | true => if C i j < D i j then D i j else C i j
  | false => if D i j < C i j then D i j else C i j
theorem asm_mx {n : Nat} {C D : Nat → Nat → Int} (g : Bool) (h : asm n C) (h' : asm n D) : asm n (mxC g C D) := by
  obtain ⟨a1, a2, a3, a4, a5, a6⟩ := h
  obtain ⟨b1, b2, b3, b4, b5, b6⟩ := h'
  unfold mxC
  cases g with
  | true =>
    refine ⟨fun c hc => ?_, fun r hr => ?_, fun c hc => ?_, fun r hr => ?_, fun r c hr hc => ?_, fun r c hr hc => ?_⟩
    · have := a1 c hc; have := b1 c hc; dsimp only; split <;> omega
    · have := a2 r hr; have := b2 r hr; dsimp only; split <;> omega
    · have := a3 c hc; have := b3 c hc; dsimp only; split <;> omega
    · have := a4 r hr; have := b4 r hr; dsimp only; split <;> omega
    · have := a5 r c hr hc; have := b5 r c hr hc; dsimp only; split <;> split <;> omega
    · have := a6 r c hr hc; have := b6 r c hr hc; dsimp only; split <;> split <;> omega
  | false =>
    refine ⟨fun c hc => ?_, fun r hr => ?_, fun c hc => ?_, fun r hr => ?_, fun r c hr hc => ?_, fun r c hr hc => ?_⟩
    · have := a1 c hc; have := b1 c hc; dsimp only; split <;> omega
    · have := a2 r hr; have := b2 r hr; dsimp only; split <;> omega
    · have := a3 c hc; have := b3 c hc; dsimp only; split <;> omega
    · have := a4 r hr; have := b4 r hr; dsimp only; split <;> omega
    · have := a5 r c hr hc; have := b5 r c hr hc; dsimp only; split <;> split <;> omega
    · have := a6 r c hr hc; have := b6 r c hr hc; dsimp only; split <;> split <;> omega
theorem mx_iI (g : Bool) {n i j : Nat} {C D : Nat → Nat → Int} (h : asm n C) (h' : asm n D) (hn : n ≤ 10) (hi : i ≤ n) (hj : j ≤ n) : mx g (iI (C i j)) (iI (D i j)) = iI (mxC g C D i j) := by
  have b1 := h.bd hi hj
  have b2 := h'.bd hi hj
  unfold mx mxC
  cases g with
  | true =>
    dsimp only
    by_cases q : C i j < D i j
    · rw [if_pos ((iI_lt (by omega) (by omega)).mpr q), if_pos q]
    · rw [if_neg (fun z => q ((iI_lt (by omega) (by omega)).mp z)), if_neg q]
  | false =>
    dsimp only
    by_cases q : D i j < C i j
    · rw [if_pos ((iI_lt (by omega) (by omega)).mpr q), if_pos q]
    · rw [if_neg (fun z => q ((iI_lt (by omega) (by omega)).mp z)), if_neg q]
section XTAB
variable {w : XW} {a n : Nat} {C : Nat → Nat → Int}
theorem m_isBelow {b : Nat} {D : Nat → Nat → Int} (h : tb w a n C) (g : tb w b n D) : xm T_isBelow 0 [.ref a, .ref b] w = some (.int (bI (belowC n C D)), w) := by
  have hn := h.2.2.1
  rw [e_T_isBelow, q_T_isBelow_0]
  refine x_nest (fun (i : Nat) (_ : Unit) (u : Option Value) => xr T_isBelow 0 2 [some (.ref a), some (.ref b), some (.int (iI i)), u] [] (0, 0) w)
    (fun (i j : Nat) (_ : Unit) (_ : Unit) => xr T_isBelow 0 12 [some (.ref a), some (.ref b), some (.int (iI i)), some (.int (iI j))] [] (0, 0) w) (n + 1) (fun _ => n + 1)
    (fun i j _ => (∀ r, r < i → ∀ c, c < n + 1 → D r c ≤ C r c) ∧ ∀ c, c < j → D i c ≤ C i c) (fun o => o = some (.int (bI (belowC n C D)), w))
    (fun i s u hi hp => ⟨(), ?_⟩) (fun i j s v hi hj hp => ?_) (fun i s v hi hp => ⟨some (.int (iI ((n + 1 : Nat) : Int))), ?_, fun r hr c hc => ?_, fun c hc => absurd hc (Nat.not_lt_zero _)⟩) (fun s u hp => ?_) () none ⟨fun r hr => absurd hr (Nat.not_lt_zero _), fun c hc => absurd hc (Nat.not_lt_zero _)⟩
  · rw [q_T_isBelow_2, h.2.2.2.1]
    exact s_g (T_ok h.1) (s_ltf (by omega) rfl)
  · have b1 := h.2.2.2.2.1.bd (i := i) (j := j) (by omega) (by omega)
    have b2 := g.2.2.2.2.1.bd (i := i) (j := j) (by omega) (by omega)
    by_cases hd : D i j ≤ C i j
    · refine Or.inr ⟨(), (), ?_, hp.1, fun c hc => ?_⟩
      · rw [q_T_isBelow_12, h.2.2.2.1]
        refine s_g (T_ok h.1) (s_ltf (by omega) (s_g (T_rv h.1) (s_I (m_corner h i j (by omega)) (s_g (T_rv g.1) (s_I (m_corner g i j (by omega)) (s_let (by omega) ?_))))))
        rw [q_T_isBelow_37, iI_add]; rfl
      · rcases Nat.lt_or_ge c j with q | q
        · exact hp.2 c q
        · rw [show c = j by omega]; exact hd
    · refine Or.inl ?_
      rw [q_T_isBelow_12, h.2.2.2.1]
      refine s_g (T_ok h.1) (s_ltf (by omega) (s_g (T_rv h.1) (s_I (m_corner h i j (by omega)) (s_g (T_rv g.1) (s_I (m_corner g i j (by omega)) (s_lef (by omega) ?_))))))
      rw [xbz_0, show belowC n C D = false from decide_eq_false (fun q => hd (q i hi j hj))]
  · rw [q_T_isBelow_12, h.2.2.2.1]
    refine s_g (T_ok h.1) (s_ltt (by omega) ?_)
    rw [q_T_isBelow_43, iI_add]; rfl
  · rcases Nat.lt_or_ge r i with q | q
    · exact hp.1 r q c hc
    · rw [show r = i by omega]; exact hp.2 c hc
  · rw [q_T_isBelow_2, h.2.2.2.1]
    refine s_g (T_ok h.1) (s_ltt (by omega) ?_)
    rw [q_T_isBelow_49, xbz_1, show belowC n C D = true from decide_eq_true hp.1]
theorem m_stepsTo {b : Nat} {D : Nat → Nat → Int} (h : tb w a n C) (g : tb w b n D) : xm T_stepsTo 0 [.ref a, .ref b] w = some (.int (iI (apartC n C D)), w) := by
  have hn := h.2.2.1
  rw [e_T_stepsTo, q_T_stepsTo_0]
  refine x_nest (fun (i : Nat) (s : Int) (u : Option Value) => xr T_stepsTo 0 4 [some (.ref a), some (.ref b), some (.int (iI s)), some (.int (iI i)), u] [] (0, 0) w)
    (fun (i j : Nat) (s : Int) (_ : Unit) => xr T_stepsTo 0 15 [some (.ref a), some (.ref b), some (.int (iI s)), some (.int (iI i)), some (.int (iI j))] [] (0, 0) w) (n + 1) (fun _ => n + 1)
    (fun i j s => s = sumF (fun i => sumF (fun j => absI (C i j - D i j)) (n + 1)) i + sumF (fun j => absI (C i j - D i j)) j) (fun o => o = some (.int (iI (apartC n C D)), w))
    (fun i s u hi hp => ⟨(), ?_⟩) (fun i j s v hi hj hp => Or.inr ⟨s + absI (C i j - D i j), (), ?_, ?_⟩) (fun i s v hi hp => ⟨some (.int (iI ((n + 1 : Nat) : Int))), ?_, ?_⟩) (fun s u hp => ?_) 0 none rfl
  · rw [q_T_stepsTo_4, h.2.2.2.1]
    exact s_g (T_ok h.1) (s_ltf (by omega) rfl)
  · have b1 := h.2.2.2.2.1.bd (i := i) (j := j) (by omega) (by omega)
    have b2 := g.2.2.2.2.1.bd (i := i) (j := j) (by omega) (by omega)
    rw [q_T_stepsTo_15, h.2.2.2.1]
    refine s_g (T_ok h.1) (s_ltf (by omega) (s_g (T_rv h.1) (s_I (m_corner h i j (by omega)) (s_g (T_rv g.1) (s_I (m_corner g i j (by omega)) ?_)))))
    rw [iI_sub]
    refine s_I (m_abs (by omega) w) ?_
    rw [iI_add, iI_add]; rfl
  · rw [hp, Int.add_assoc]; rfl
  · rw [q_T_stepsTo_15, h.2.2.2.1]
    refine s_g (T_ok h.1) (s_ltt (by omega) ?_)
    rw [q_T_stepsTo_51, iI_add]; rfl
  · rw [hp]; exact (Int.add_zero _).symm
  · rw [q_T_stepsTo_4, h.2.2.2.1]
    refine s_g (T_ok h.1) (s_ltt (by omega) ?_)
    rw [q_T_stepsTo_57, hp, show sumF (fun j => absI (C (n + 1) j - D (n + 1) j)) 0 = 0 from rfl, Int.add_zero]; rfl
theorem m_turnSquares (h : tb w a n C) (hz : zr w a) {par : Nat} (hpar : par < 2) : ∃ w', xm T_turnSquares 0 [.ref a, .int (iI par)] w = some (.null, w') ∧ tb w' a n (turnC n C par) ∧ zr w' a ∧ xFr (fun q => q == a + 1) w w' := by
  have hn := h.2.2.1
  rw [e_T_turnSquares, q_T_turnSquares_0]
  refine x_nest (fun (i : Nat) (s : XW) (u : Option Value) => xr T_turnSquares 0 2 [some (.ref a), some (.int (iI par)), some (.int (iI ((i : Int) + 1))), u] [] (0, 0) s)
    (fun (i j : Nat) (s : XW) (_ : Unit) => xr T_turnSquares 0 12 [some (.ref a), some (.int (iI par)), some (.int (iI ((i : Int) + 1))), some (.int (iI ((j : Int) + 1)))] [] (0, 0) s) (n - 1) (fun _ => n - 1)
    (fun i j s => tb s a n (tJ (tI n C par i) par (i + 1) j) ∧ zr s a ∧ xFr (fun q => q == a + 1) w s) (fun o => ∃ w', o = some (.null, w') ∧ tb w' a n (turnC n C par) ∧ zr w' a ∧ xFr (fun q => q == a + 1) w w')
    (fun i s u hi hp => ⟨(), ?_⟩) (fun i j s v hi hj hp => Or.inr ?_) (fun i s v hi hp => ⟨some (.int (iI n)), ?_, hp⟩) (fun s u hp => ⟨s, ?_, hp⟩) w none ⟨h, hz, xFr.rf _ _⟩
  · rw [q_T_turnSquares_2, hp.1.2.2.2.1]
    exact s_g (T_ok h.1) (s_lef (by omega) rfl)
  · obtain ⟨hT, hZ, hF⟩ := hp
    generalize hD : tJ (tI n C par i) par (i + 1) j = D at hT
    have goal : ∀ s', tb s' a n (turn1 D (i + 1) (j + 1) par) → zr s' a → xFr (fun q => q == a + 1) w s' → xr T_turnSquares 0 12 [some (.ref a), some (.int (iI par)), some (.int (iI ((i : Int) + 1))), some (.int (iI ((j : Int) + 1)))] [] (0, 0) s = xr T_turnSquares 0 47 [some (.ref a), some (.int (iI par)), some (.int (iI ((i : Int) + 1))), some (.int (iI ((j : Int) + 1)))] [] (0, 0) s' → ∃ (s' : XW) (v' : Unit), xr T_turnSquares 0 12 [some (.ref a), some (.int (iI par)), some (.int (iI ((i : Int) + 1))), some (.int (iI ((j : Int) + 1)))] [] (0, 0) s = xr T_turnSquares 0 12 [some (.ref a), some (.int (iI par)), some (.int (iI ((i : Int) + 1))), some (.int (iI (((j + 1 : Nat) : Int) + 1)))] [] (0, 0) s' ∧ tb s' a n (tJ (tI n C par i) par (i + 1) (j + 1)) ∧ zr s' a ∧ xFr (fun q => q == a + 1) w s' := by
      intro s' k1 k2 k3 k4
      refine ⟨s', (), ?_, ?_, k2, k3⟩
      · rw [k4, q_T_turnSquares_47, iI_add]; rfl
      · show tb s' a n (turn1 (tJ (tI n C par i) par (i + 1) j) (i + 1) (j + 1) par)
        rw [hD]; exact k1
    have s1 := m_shift hT (zi := (i : Int) + 1) (zj := (j : Int) + 1) (i + 1) (j + 1) (by omega) (Or.inl rfl)
    have s2 := m_shift hT (zi := (i : Int) + 1) (zj := (j : Int) + 1) (i + 1) (j + 1) (by omega) (Or.inr rfl)
    have frs : ∀ v, xFr (fun q => q == a + 1) w (xpI s (a + 1) ((i + 1) * 11 + (j + 1)) v) := fun v => hF.tr (fr_pI (beq_self_eq_true _))
    by_cases hq : (i + 1 + (j + 1)) % 2 = par
    · have run : ∀ x, (xbI (xm T_shift 0 [.ref a, .int (iI ((i : Int) + 1)), .int (iI ((j : Int) + 1)), .int (iI 1)] s) (fun r_2 w_1 => if r_2 = 0 then xg (xrv (.ref a) 5) (xbI (xm T_shift 0 [.ref a, .int (iI ((i : Int) + 1)), .int (iI ((j : Int) + 1)), .int (iI (-1))] w_1) (fun r_4 w_3 => xr T_turnSquares 0 47 [some (.ref a), some (.int (iI par)), some (.int (iI ((i : Int) + 1))), some (.int (iI ((j : Int) + 1)))] [] (0, 0) w_3)) else xr T_turnSquares 0 47 [some (.ref a), some (.int (iI par)), some (.int (iI ((i : Int) + 1))), some (.int (iI ((j : Int) + 1)))] [] (0, 0) w_1)) = x → xr T_turnSquares 0 12 [some (.ref a), some (.int (iI par)), some (.int (iI ((i : Int) + 1))), some (.int (iI ((j : Int) + 1)))] [] (0, 0) s = x := by
        intro x hx
        rw [q_T_turnSquares_12, hT.2.2.2.1, iI_add, iI_and1]
        refine s_g (T_ok h.1) (s_lef (by omega) (s_eqt (by omega) (s_g (T_rv h.1) hx)))
      cases hc : canS D (i + 1) (j + 1) 1 with
      | true =>
        rw [hc, if_pos rfl] at s1
        refine goal _ ?_ (zr_up hZ (by omega)) (frs _) (run _ (s_I s1 (s_bt rfl rfl)))
        unfold turn1
        rw [if_pos hq, if_pos hc]
        exact tb_up hT (by omega) hc
      | false =>
        rw [hc, if_neg (by decide)] at s1
        cases hc2 : canS D (i + 1) (j + 1) (-1) with
        | true =>
          rw [hc2, if_pos rfl] at s2
          refine goal _ ?_ (zr_up hZ (by omega)) (frs _) (run _ (s_I s1 (s_bf rfl (s_g (T_rv h.1) (s_I s2 rfl)))))
          unfold turn1
          rw [if_pos hq, if_neg (by rw [hc]; decide), if_pos hc2]
          exact tb_up hT (by omega) hc2
        | false =>
          rw [hc2, if_neg (by decide)] at s2
          refine goal s ?_ hZ hF (run _ (s_I s1 (s_bf rfl (s_g (T_rv h.1) (s_I s2 rfl)))))
          unfold turn1
          rw [if_pos hq, if_neg (by rw [hc]; decide), if_neg (by rw [hc2]; decide)]
          exact hT
    · refine goal s ?_ hZ hF ?_
      · unfold turn1
        rw [if_neg hq]; exact hT
      · rw [q_T_turnSquares_12, hT.2.2.2.1, iI_add, iI_and1]
        exact s_g (T_ok h.1) (s_lef (by omega) (s_eqf (by omega) rfl))
  · have e : ((n - 1 : Nat) : Int) + 1 = n := by omega
    rw [e, q_T_turnSquares_12, hp.1.2.2.2.1]
    refine s_g (T_ok h.1) (s_let (by omega) ?_)
    rw [q_T_turnSquares_53, iI_add]; rfl
  · have e : ((n - 1 : Nat) : Int) + 1 = n := by omega
    rw [e, q_T_turnSquares_2, hp.1.2.2.2.1]
    refine s_g (T_ok h.1) (s_let (by omega) ?_)
    rw [q_T_turnSquares_59]
theorem m_rowBits (h : tb w a n C) {zi : Int} (i : Nat) (hi : zi = i ∧ i ≤ n) : xm T_rowBits 0 [.ref a, .int (iI zi)] w = some (.int (iI (rowB C i n)), w) := by
  have hn := h.2.2.1
  rw [e_T_rowBits, q_T_rowBits_0]
  refine x_loop (fun (k : Nat) (s : Int) (_ : Unit) => xr T_rowBits 0 4 [some (.ref a), some (.int (iI zi)), some (.int (iI s)), some (.int (iI k))] [] (0, 0) w) n
    (fun k s => s = rowB C i k) (fun o => o = some (.int (iI (rowB C i n)), w)) (fun k s u hk hp => Or.inr ⟨2 * s + (C i (k + 1) - C i k), (), ?_, ?_⟩) (fun s u hp => ?_) 0 () rfl
  · rw [q_T_rowBits_4, h.2.2.2.1]
    refine s_g (T_ok h.1) (s_lef (by omega) (s_g (T_rv h.1) (s_I (m_edge h false rfl i k (by omega) (show i ≤ n ∧ k < n by omega)) ?_)))
    rw [iI_mul, iI_add, iI_add]; rfl
  · rw [hp]; rfl
  · rw [q_T_rowBits_4, h.2.2.2.1]
    refine s_g (T_ok h.1) (s_let (by omega) ?_)
    rw [q_T_rowBits_30, hp]
theorem m_triangleColumn (h : tb w a n C) {zi zj : Int} (i : Nat) (hi : zi = i ∧ i ≤ n) (hj : i32 zj) : xm T_triangleColumn 0 [.ref a, .int (iI zi), .int (iI zj)] w = some (.int (iI (triC n C i zj)), w) := by
  have hn := h.2.2.1
  rw [e_T_triangleColumn, q_T_triangleColumn_0]
  have hx := x_ex (fun k : Nat => xr T_triangleColumn 0 5 [some (.ref a), some (.int (iI zi)), some (.int (iI zj)), some (.int (iI (C i k))), some (.int (iI k))] [] (0, 0) w) (fun k => some (.int (iI k), w)) (fun c => decide (zj < C i (c + 1))) (N := n) (fun k hk hp => ?_) (fun k hk hp => ?_)
  · rw [h.2.2.2.2.1.2.1 i hi.2] at hx
    refine hx.trans ?_
    unfold triC
    split
    · rfl
    · rw [q_T_triangleColumn_5, h.2.2.2.1]
      refine s_g (T_ok h.1) (s_let (by omega) ?_)
      rw [q_T_triangleColumn_39]
  · have b1 := h.2.2.2.2.1.bd (i := i) (j := k) (by omega) (by omega)
    have b2 := h.2.2.2.2.1.bd (i := i) (j := k + 1) (by omega) (by omega)
    have hp := of_decide_eq_false hp
    rw [q_T_triangleColumn_5, h.2.2.2.1]
    refine s_g (T_ok h.1) (s_lef (by omega) (s_g (T_rv h.1) (s_I (m_edge h false rfl i k (by omega) (show i ≤ n ∧ k < n by omega)) ?_)))
    rw [iI_add, show C i k + eS C false i k = C i (k + 1) by unfold eS; dsimp only; omega]
    refine s_let (by omega) ?_
    rw [q_T_triangleColumn_33, iI_add]; rfl
  · have b1 := h.2.2.2.2.1.bd (i := i) (j := k) (by omega) (by omega)
    have b2 := h.2.2.2.2.1.bd (i := i) (j := k + 1) (by omega) (by omega)
    have hp := of_decide_eq_true hp
    rw [q_T_triangleColumn_5, h.2.2.2.1]
    refine s_g (T_ok h.1) (s_lef (by omega) (s_g (T_rv h.1) (s_I (m_edge h false rfl i k (by omega) (show i ≤ n ∧ k < n by omega)) ?_)))
    rw [iI_add, show C i k + eS C false i k = C i (k + 1) by unfold eS; dsimp only; omega]
    exact s_lef (by omega) rfl
end XTAB
