/-! ===== THE REFERENCE, 8 (own work): turning, moving ===== -/
def pic (s : XW) (n : Nat) (C : Nat → Nat → Int) : Prop := ∀ r c, r ≤ n → c ≤ n → xIA s 41 (r * 11 + c) = bI (decide (r < n) && hd C true r c) ∧ xIA s 42 (r * 11 + c) = bI (decide (c < n) && hd C false r c)
theorem hd_b {C : Nat → Nat → Int} {l : Bool} {i j : Nat} : hd C l i j = true ↔ ((i : Int) + j + eS C l i j) % 2 = (match l with
    | true => 0
    | false => 1) := by unfold hd; rw [decide_eq_true_eq]; cases l <;> exact Iff.rfl
theorem eS_upT {C : Nat → Nat → Int} {i j : Nat} {v : Int} (r c : Nat) : eS (upC C i j v) true r c = (if r + 1 = i ∧ c = j then v else C (r + 1) c) - (if r = i ∧ c = j then v else C r c) := rfl
theorem eS_upF {C : Nat → Nat → Int} {i j : Nat} {v : Int} (r c : Nat) : eS (upC C i j v) false r c = (if r = i ∧ c + 1 = j then v else C r (c + 1)) - (if r = i ∧ c = j then v else C r c) := rfl
theorem flip_h {C : Nat → Nat → Int} {l : Bool} {r c : Nat} {e : Int} (h : e = 0 ∨ e = 1) (he : eS C l r c = e) {D : Nat → Nat → Int} (hD : eS D l r c = 1 - e) : hd D l r c = !hd C l r c := by
  have : hd D l r c = true ↔ ¬ hd C l r c = true := by
    rw [hd_b, hd_b, he, hD]
    cases l <;> dsimp only <;> omega
  cases h1 : hd C l r c with
  | true => rw [h1] at this; simpa using this
  | false => rw [h1] at this; simpa using this
section XMOD
variable {w : XW} {A : AS}
theorem r_square {s : XW} (hG : XG s) {n i j : Nat} {col : Int} (hn : n ≤ 10) (hi : i + 1 < n) (hj : j + 1 < n) {b1 b2 b3 b4 : Bool} (h1 : xIA s 41 (i * 11 + (j + 1)) = bI b1) (h2 : xIA s 41 ((i + 1) * 11 + (j + 1)) = bI b2) (h3 : xIA s 42 ((i + 1) * 11 + j) = bI b3) (h4 : xIA s 42 ((i + 1) * 11 + (j + 1)) = bI b4) (u : Option Value × Option Value × Option Value × Option Value × Option Value) :
    ∃ u' : Option Value × Option Value × Option Value × Option Value × Option Value, xr M_turns 0 33 [some (.ref 34), some (.int (iI (n : Int))), some (.int (iI col)), some (.int (iI (i : Int))), some (.int (iI (j : Int))), u.1, u.2.1, u.2.2.1, u.2.2.2.1, u.2.2.2.2] [] (0, 0) s = xr M_turns 0 211 [some (.ref 34), some (.int (iI (n : Int))), some (.int (iI col)), some (.int (iI (i : Int))), some (.int (iI (j : Int))), u'.1, u'.2.1, u'.2.2.1, u'.2.2.2.1, u'.2.2.2.2] [] (0, 0)
      (if ((b1 && b2 && !b3 && !b4) || (!b1 && !b2 && b3 && b4)) = true then xpI (xpI (xpI (xpI s 41 (i * 11 + (j + 1)) (bI (!b1))) 41 ((i + 1) * 11 + (j + 1)) (bI (!b2))) 42 ((i + 1) * 11 + j) (bI (!b3))) 42 ((i + 1) * 11 + (j + 1)) (bI (!b4)) else s) := by
  have na : (iI (11 * (i : Int) + (j : Int) + 1)).toNatClampNeg = i * 11 + (j + 1) := by rw [iI_nat (by omega)]; omega
  have nb : (iI (11 * ((i : Int) + 1) + (j : Int) + 1)).toNatClampNeg = (i + 1) * 11 + (j + 1) := by rw [iI_nat (by omega)]; omega
  have nc : (iI (11 * ((i : Int) + 1) + (j : Int))).toNatClampNeg = (i + 1) * 11 + j := by rw [iI_nat (by omega)]; omega
  have ia : ∀ (t : XW) (q : Nat), q = 41 ∨ q = 42 → xoa t q 2 (iI (11 * (i : Int) + (j : Int) + 1)) = true := fun t q hq => by rcases hq with rfl | rfl <;> exact xin_t (n := 121) (by omega)
  have ib : ∀ (t : XW) (q : Nat), q = 41 ∨ q = 42 → xoa t q 2 (iI (11 * ((i : Int) + 1) + (j : Int) + 1)) = true := fun t q hq => by rcases hq with rfl | rfl <;> exact xin_t (n := 121) (by omega)
  have ic : ∀ (t : XW) (q : Nat), q = 41 ∨ q = 42 → xoa t q 2 (iI (11 * ((i : Int) + 1) + (j : Int))) = true := fun t q hq => by rcases hq with rfl | rfl <;> exact xin_t (n := 121) (by omega)
  have r41 : xRF s 34 12 = some 41 := hG.r (by decide) rfl
  have r42 : xRF s 34 13 = some 42 := hG.r (by decide) rfl
  have z01 : ∀ b : Bool, xz01 (bI b) = true := fun b => by cases b <;> decide
  have p33 : xr M_turns 0 33 [some (.ref 34), some (.int (iI (n : Int))), some (.int (iI col)), some (.int (iI (i : Int))), some (.int (iI (j : Int))), u.1, u.2.1, u.2.2.1, u.2.2.2.1, u.2.2.2.2] [] (0, 0) s = xr M_turns 0 113 [some (.ref 34), some (.int (iI (n : Int))), some (.int (iI col)), some (.int (iI (i : Int))), some (.int (iI (j : Int))), some (.int (iI (11 * (i : Int) + (j : Int) + 1))), some (.int (iI (11 * ((i : Int) + 1) + (j : Int) + 1))), some (.int (iI (11 * ((i : Int) + 1) + (j : Int)))), u.2.2.2.1, u.2.2.2.2] [.int (bI (b1 && b2 && !b3 && !b4))] (0, 0) s := by
    rw [q_M_turns_33]
    simp only [iI_mul, iI_add]
    refine s_g rfl (s_o r41 (s_g (ia s 41 (Or.inl rfl)) ?_))
    rw [na, h1]
    cases b1 with
    | false =>
      refine s_bf rfl ?_
      rw [q_M_turns_112]; rfl
    | true =>
      refine s_bt rfl (s_g rfl (s_o r41 (s_g (ib s 41 (Or.inl rfl)) ?_)))
      rw [nb, h2]
      cases b2 with
      | false =>
        refine s_bf rfl ?_
        rw [q_M_turns_112]; rfl
      | true =>
        refine s_bt rfl (s_g rfl (s_o r42 (s_g (ic s 42 (Or.inr rfl)) ?_)))
        rw [nc, h3]
        cases b3 with
        | false =>
          refine s_bf rfl (s_g rfl (s_o r42 (s_g (ib s 42 (Or.inr rfl)) ?_)))
          rw [h4]
          cases b4 with
          | false => exact s_bf rfl rfl
          | true =>
            refine s_bt rfl ?_
            rw [q_M_turns_112]; rfl
        | true =>
          refine s_bt rfl ?_
          rw [q_M_turns_112]; rfl
  have p113 : ∀ f : Bool, xr M_turns 0 113 [some (.ref 34), some (.int (iI (n : Int))), some (.int (iI col)), some (.int (iI (i : Int))), some (.int (iI (j : Int))), some (.int (iI (11 * (i : Int) + (j : Int) + 1))), some (.int (iI (11 * ((i : Int) + 1) + (j : Int) + 1))), some (.int (iI (11 * ((i : Int) + 1) + (j : Int)))), u.2.2.2.1, u.2.2.2.2] [.int (bI f)] (0, 0) s = xr M_turns 0 160 [some (.ref 34), some (.int (iI (n : Int))), some (.int (iI col)), some (.int (iI (i : Int))), some (.int (iI (j : Int))), some (.int (iI (11 * (i : Int) + (j : Int) + 1))), some (.int (iI (11 * ((i : Int) + 1) + (j : Int) + 1))), some (.int (iI (11 * ((i : Int) + 1) + (j : Int)))), some (.int (bI f)), u.2.2.2.2] [.int (bI (!b1 && !b2 && b3 && b4))] (0, 0) s := by
    intro f
    rw [q_M_turns_113]
    refine s_g rfl (s_o r41 (s_g (ia s 41 (Or.inl rfl)) ?_))
    rw [na, h1]
    cases b1 with
    | true =>
      refine s_bt rfl ?_
      rw [q_M_turns_159]; rfl
    | false =>
      refine s_bf rfl (s_g rfl (s_o r41 (s_g (ib s 41 (Or.inl rfl)) ?_)))
      rw [nb, h2]
      cases b2 with
      | true =>
        refine s_bt rfl ?_
        rw [q_M_turns_159]; rfl
      | false =>
        refine s_bf rfl (s_g rfl (s_o r42 (s_g (ic s 42 (Or.inr rfl)) ?_)))
        rw [nc, h3]
        cases b3 with
        | false =>
          refine s_bf rfl ?_
          rw [q_M_turns_159]; rfl
        | true =>
          refine s_bt rfl (s_g rfl (s_o r42 (s_g (ib s 42 (Or.inr rfl)) ?_)))
          rw [h4]
          cases b4 with
          | false =>
            refine s_bf rfl ?_
            rw [q_M_turns_159]; rfl
          | true => exact s_bt rfl rfl
  have p175 : ∀ f t : Bool, xr M_turns 0 175 [some (.ref 34), some (.int (iI (n : Int))), some (.int (iI col)), some (.int (iI (i : Int))), some (.int (iI (j : Int))), some (.int (iI (11 * (i : Int) + (j : Int) + 1))), some (.int (iI (11 * ((i : Int) + 1) + (j : Int) + 1))), some (.int (iI (11 * ((i : Int) + 1) + (j : Int)))), some (.int (bI f)), some (.int (bI t))] [] (0, 0) s = xr M_turns 0 211 [some (.ref 34), some (.int (iI (n : Int))), some (.int (iI col)), some (.int (iI (i : Int))), some (.int (iI (j : Int))), some (.int (iI (11 * (i : Int) + (j : Int) + 1))), some (.int (iI (11 * ((i : Int) + 1) + (j : Int) + 1))), some (.int (iI (11 * ((i : Int) + 1) + (j : Int)))), some (.int (bI f)), some (.int (bI t))] [] (0, 0) (xpI (xpI (xpI (xpI s 41 (i * 11 + (j + 1)) (bI t)) 41 ((i + 1) * 11 + (j + 1)) (bI t)) 42 ((i + 1) * 11 + j) (bI f)) 42 ((i + 1) * 11 + (j + 1)) (bI f)) := by
    intro f t
    rw [q_M_turns_175, na, nb, nc]
    exact s_g rfl (s_o r41 (s_g (ia s 41 (Or.inl rfl)) (s_g (z01 t) (s_g rfl (s_o r41 (s_g (ib _ 41 (Or.inl rfl)) (s_g (z01 t) (s_g rfl (s_o r42 (s_g (ic _ 42 (Or.inr rfl)) (s_g (z01 f) (s_g rfl (s_o r42 (s_g (ib _ 42 (Or.inr rfl)) (s_g (z01 f) rfl)))))))))))))))
  rw [p33, p113, q_M_turns_160]
  by_cases hf : (b1 && b2 && !b3 && !b4) = true
  · refine ⟨(some (.int (iI (11 * (i : Int) + (j : Int) + 1))), some (.int (iI (11 * ((i : Int) + 1) + (j : Int) + 1))), some (.int (iI (11 * ((i : Int) + 1) + (j : Int)))), some (.int (bI true)), some (.int (bI false))), s_bt hf ?_⟩
    simp only [Bool.and_eq_true, Bool.not_eq_true'] at hf
    obtain ⟨⟨⟨rfl, rfl⟩, rfl⟩, rfl⟩ := hf
    exact p175 true false
  · have hf' : (b1 && b2 && !b3 && !b4) = false := by simpa using hf
    by_cases ht : (!b1 && !b2 && b3 && b4) = true
    · refine ⟨(some (.int (iI (11 * (i : Int) + (j : Int) + 1))), some (.int (iI (11 * ((i : Int) + 1) + (j : Int) + 1))), some (.int (iI (11 * ((i : Int) + 1) + (j : Int)))), some (.int (bI false)), some (.int (bI true))), s_bf hf' (s_bt ht ?_)⟩
      simp only [Bool.and_eq_true, Bool.not_eq_true'] at ht
      obtain ⟨⟨⟨rfl, rfl⟩, rfl⟩, rfl⟩ := ht
      exact p175 false true
    · have ht' : (!b1 && !b2 && b3 && b4) = false := by simpa using ht
      refine ⟨(some (.int (iI (11 * (i : Int) + (j : Int) + 1))), some (.int (iI (11 * ((i : Int) + 1) + (j : Int) + 1))), some (.int (iI (11 * ((i : Int) + 1) + (j : Int)))), some (.int (bI false)), some (.int (bI false))), s_bf hf' (s_bf ht' ?_)⟩
      rw [hf', ht']; rfl
/-- a square turned about is a step of the corner sum in its middle -/
theorem pic_turn {s : XW} {n i j par : Nat} {D : Nat → Nat → Int} (hD : asm n D) (hp : pic s n D) (hn : n ≤ 10) (hi : i + 1 < n) (hj : j + 1 < n) (hpar : (i + 1 + (j + 1)) % 2 = par) :
    pic (if ((hd D true i (j + 1) && hd D true (i + 1) (j + 1) && !hd D false (i + 1) j && !hd D false (i + 1) (j + 1)) || (!hd D true i (j + 1) && !hd D true (i + 1) (j + 1) && hd D false (i + 1) j && hd D false (i + 1) (j + 1))) = true then xpI (xpI (xpI (xpI s 41 (i * 11 + (j + 1)) (bI (!hd D true i (j + 1)))) 41 ((i + 1) * 11 + (j + 1)) (bI (!hd D true (i + 1) (j + 1)))) 42 ((i + 1) * 11 + j) (bI (!hd D false (i + 1) j))) 42 ((i + 1) * 11 + (j + 1)) (bI (!hd D false (i + 1) (j + 1))) else s) n (turn1 D (i + 1) (j + 1) par) := by
  have v1 := hD.2.2.2.2.1 i (j + 1) (by omega) (by omega)
  have v2 := hD.2.2.2.2.1 (i + 1) (j + 1) (by omega) (by omega)
  have v3 := hD.2.2.2.2.2 (i + 1) j (by omega) (by omega)
  have v4 := hD.2.2.2.2.2 (i + 1) (j + 1) (by omega) (by omega)
  have e1 : eS D true i (j + 1) = D (i + 1) (j + 1) - D i (j + 1) := rfl
  have e2 : eS D true (i + 1) (j + 1) = D (i + 1 + 1) (j + 1) - D (i + 1) (j + 1) := rfl
  have e3 : eS D false (i + 1) j = D (i + 1) (j + 1) - D (i + 1) j := rfl
  have e4 : eS D false (i + 1) (j + 1) = D (i + 1) (j + 1 + 1) - D (i + 1) (j + 1) := rfl
  have q1 := hd_b (C := D) (l := true) (i := i) (j := j + 1)
  have q2 := hd_b (C := D) (l := true) (i := i + 1) (j := j + 1)
  have q3 := hd_b (C := D) (l := false) (i := i + 1) (j := j)
  have q4 := hd_b (C := D) (l := false) (i := i + 1) (j := j + 1)
  rw [e1] at q1
  rw [e2] at q2
  rw [e3] at q3
  rw [e4] at q4
  dsimp only at q1 q2 q3 q4
  have cU : canS D (i + 1) (j + 1) 1 = true ↔ (D (i + 1) (j + 1) = D i (j + 1) ∧ D (i + 1) (j + 1) = D (i + 1) j ∧ D (i + 1 + 1) (j + 1) = D (i + 1) (j + 1) + 1 ∧ D (i + 1) (j + 1 + 1) = D (i + 1) (j + 1) + 1) := by
    unfold canS
    rw [decide_eq_true_eq, show i + 1 - 1 = i by omega, show j + 1 - 1 = j by omega]
    omega
  have cD : canS D (i + 1) (j + 1) (-1) = true ↔ (D (i + 1) (j + 1) = D i (j + 1) + 1 ∧ D (i + 1) (j + 1) = D (i + 1) j + 1 ∧ D (i + 1 + 1) (j + 1) = D (i + 1) (j + 1) ∧ D (i + 1) (j + 1 + 1) = D (i + 1) (j + 1)) := by
    unfold canS
    rw [decide_eq_true_eq, show i + 1 - 1 = i by omega, show j + 1 - 1 = j by omega]
    omega
  have cond : ((hd D true i (j + 1) && hd D true (i + 1) (j + 1) && !hd D false (i + 1) j && !hd D false (i + 1) (j + 1)) || (!hd D true i (j + 1) && !hd D true (i + 1) (j + 1) && hd D false (i + 1) j && hd D false (i + 1) (j + 1))) = true ↔ (canS D (i + 1) (j + 1) 1 = true ∨ canS D (i + 1) (j + 1) (-1) = true) := by
    rw [cU, cD]
    simp only [Bool.or_eq_true, Bool.and_eq_true, Bool.not_eq_true', ← Bool.not_eq_true, q1, q2, q3, q4]
    have : ((i + 1 : Nat) : Int) = (i : Int) + 1 := rfl
    have : ((j + 1 : Nat) : Int) = (j : Int) + 1 := rfl
    omega
  unfold turn1
  rw [if_pos hpar]
  have go : ∀ d, (d = 1 ∨ d = -1) → canS D (i + 1) (j + 1) d = true → pic (xpI (xpI (xpI (xpI s 41 (i * 11 + (j + 1)) (bI (!hd D true i (j + 1)))) 41 ((i + 1) * 11 + (j + 1)) (bI (!hd D true (i + 1) (j + 1)))) 42 ((i + 1) * 11 + j) (bI (!hd D false (i + 1) j))) 42 ((i + 1) * 11 + (j + 1)) (bI (!hd D false (i + 1) (j + 1)))) n (upC D (i + 1) (j + 1) (D (i + 1) (j + 1) + d)) := by
    intro d hd1 hc
    have hcc : (d = 1 ∧ (D (i + 1) (j + 1) = D i (j + 1) ∧ D (i + 1) (j + 1) = D (i + 1) j ∧ D (i + 1 + 1) (j + 1) = D (i + 1) (j + 1) + 1 ∧ D (i + 1) (j + 1 + 1) = D (i + 1) (j + 1) + 1)) ∨ (d = -1 ∧ (D (i + 1) (j + 1) = D i (j + 1) + 1 ∧ D (i + 1) (j + 1) = D (i + 1) j + 1 ∧ D (i + 1 + 1) (j + 1) = D (i + 1) (j + 1) ∧ D (i + 1) (j + 1 + 1) = D (i + 1) (j + 1))) := by
      rcases hd1 with e | e
      · subst e; exact Or.inl ⟨rfl, cU.mp hc⟩
      · subst e; exact Or.inr ⟨rfl, cD.mp hc⟩
    intro r c hr hcn
    have pr := hp r c hr hcn
    constructor
    · rw [a_pI, if_neg (by decide), a_pI, if_neg (by decide), a_pI, if_pos rfl]
      by_cases g2 : r = i + 1 ∧ c = j + 1
      · obtain ⟨rfl, rfl⟩ := g2
        rw [if_pos rfl, decide_eq_true (by omega : i + 1 < n), Bool.true_and, flip_h (C := D) (D := upC D (i + 1) (j + 1) (D (i + 1) (j + 1) + d)) (e := eS D true (i + 1) (j + 1)) (by omega) rfl (by rw [eS_upT, if_neg (by omega), if_pos ⟨rfl, rfl⟩, e2]; omega)]
      · rw [if_neg (by omega), a_pI, if_pos rfl]
        by_cases g1 : r = i ∧ c = j + 1
        · obtain ⟨rfl, rfl⟩ := g1
          rw [if_pos rfl, decide_eq_true (by omega : r < n), Bool.true_and, flip_h (C := D) (D := upC D (r + 1) (j + 1) (D (r + 1) (j + 1) + d)) (e := eS D true r (j + 1)) (by omega) rfl (by rw [eS_upT, if_pos ⟨rfl, rfl⟩, if_neg (by omega), e1]; omega)]
        · rw [if_neg (by omega), pr.1]
          have : hd (upC D (i + 1) (j + 1) (D (i + 1) (j + 1) + d)) true r c = hd D true r c := by
            unfold hd
            rw [eS_upT, if_neg (by omega), if_neg g2]; rfl
          rw [this]
    · rw [a_pI, if_pos rfl]
      by_cases g2 : r = i + 1 ∧ c = j + 1
      · obtain ⟨rfl, rfl⟩ := g2
        rw [if_pos rfl, decide_eq_true (by omega : j + 1 < n), Bool.true_and, flip_h (C := D) (D := upC D (i + 1) (j + 1) (D (i + 1) (j + 1) + d)) (e := eS D false (i + 1) (j + 1)) (by omega) rfl (by rw [eS_upF, if_neg (by omega), if_pos ⟨rfl, rfl⟩, e4]; omega)]
      · rw [if_neg (by omega), a_pI, if_pos rfl]
        by_cases g1 : r = i + 1 ∧ c = j
        · obtain ⟨rfl, rfl⟩ := g1
          rw [if_pos rfl, decide_eq_true (by omega : c < n), Bool.true_and, flip_h (C := D) (D := upC D (i + 1) (c + 1) (D (i + 1) (c + 1) + d)) (e := eS D false (i + 1) c) (by omega) rfl (by rw [eS_upF, if_pos ⟨rfl, rfl⟩, if_neg (by omega), e3]; omega)]
        · rw [if_neg (by omega), a_pI, if_neg (by decide), a_pI, if_neg (by decide), pr.2]
          have : hd (upC D (i + 1) (j + 1) (D (i + 1) (j + 1) + d)) false r c = hd D false r c := by
            unfold hd
            rw [eS_upF, if_neg (by omega), if_neg g2]; rfl
          rw [this]
  by_cases c1 : canS D (i + 1) (j + 1) 1 = true
  · rw [if_pos (cond.mpr (Or.inl c1)), if_pos c1]
    exact go 1 (Or.inl rfl) c1
  · by_cases c2 : canS D (i + 1) (j + 1) (-1) = true
    · rw [if_pos (cond.mpr (Or.inr c2)), if_neg c1, if_pos c2]
      exact go (-1) (Or.inr rfl) c2
    · rw [if_neg (fun q => (cond.mp q).elim c1 c2), if_neg c1, if_neg c2]
      exact hp
end XMOD
