/-! ===== THE REFERENCE, 10 (own work): move ===== -/
section XMOD
variable {w : XW} {A : AS}
theorem r_move (h : IM w A) {z m : Int} (hz : i32 z) (hm : i32 m) : ∃ w', xm M_move 0 [.ref 34, .int (iI z), .int (iI m)] w = some (.int (bI (o_move A z m).1), w') ∧ IM w' (o_move A z m).2 ∧ mFr w w' := by
  have h0 := IM_F (k := 0) (v := iI 0) h (by decide)
  have f0 : mFr w (xpF w 34 0 (iI 0)) := mFr_F (by decide)
  rw [e_M_move, q_M_move_0]
  have kn := r_knows (w := w) hz
  generalize ht : xpF w 34 0 (iI 0) = t at *
  have no : ¬ ((0 ≤ z ∧ z < 8) ∧ (0 ≤ m ∧ m ≤ 2)) → ∀ o, o = xr M_move 0 17 [some (.ref 34), some (.int (iI z)), some (.int (iI m)), none, none, none, none] [] (1, 100) t → ∃ w', o = some (.int (bI (o_move A z m).1), w') ∧ IM w' (o_move A z m).2 ∧ mFr w w' := fun q o ho => by
    rw [show o_move A z m = (false, A) from if_neg q]
    refine ⟨t, ?_, h0, f0⟩
    rw [ho, q_M_move_17, xbz_0]
  by_cases h1 : 0 ≤ z ∧ z < 8
  · by_cases h2 : m < 0
    · refine no (by omega) _ (s_g rfl (s_I kn (s_pt h1 ?_)))
      rw [iI_zero]
      exact s_ltt (by omega) rfl
    · by_cases h3 : m ≤ 2
      · have tt := h0.2.1 z.toNat (by omega)
        have hn := tt.1
        obtain ⟨g1, g2, g3⟩ := r_sizes h0.1 tt (z := z) (by omega)
        rw [show o_move A z m = (true, setT A z.toNat (A.1 z.toNat) (movC (A.1 z.toNat) (A.2.1 z.toNat) m.toNat)) from if_pos ⟨h1, by omega, h3⟩]
        generalize hN : A.1 z.toNat = n at *
        generalize hC : A.2.1 z.toNat = C at *
        have hsq : n * n ≤ 100 := Nat.le_trans (Nat.mul_le_mul hn.2 hn.2) (by decide)
        have esq : (n : Int) * n = ((n * n : Nat) : Int) := (Int.natCast_mul n n).symm
        have hlate : 43 ≤ xn t := h0.1.1
        generalize hL : xn t = L at hlate
        have idx : ∀ r c : Nat, r < n → c < n → n * r + c < n * n := fun r c hr hc => by
          have : n * r + n ≤ n * n := by rw [← Nat.mul_succ]; exact Nat.mul_le_mul_left n hr
          omega
        have icast : ∀ r c : Nat, (n : Int) * r + c = ((n * r + c : Nat) : Int) := fun r c => by rw [Int.natCast_add, Int.natCast_mul]
        have iinj : ∀ r c r' c' : Nat, c < n → c' < n → n * r + c = n * r' + c' → r = r' ∧ c = c' := by
          intro r c r' c' hc hc' he
          have : r = r' := by
            have e1 : (n * r + c) / n = r := by rw [Nat.mul_add_div (by omega), Nat.div_eq_of_lt hc, Nat.add_zero]
            have e2 : (n * r' + c') / n = r' := by rw [Nat.mul_add_div (by omega), Nat.div_eq_of_lt hc', Nat.add_zero]
            rw [← e1, ← e2, he]
          subst this
          exact ⟨rfl, by omega⟩
        have fA : mFr t (xmA t (n * n)) := mFr_mA h0.1.1
        have kA : rK t (xmA t (n * n)) := rK_mA h0.1.1
        have lnA : (xmA t (n * n)).2.1 L = n * n := by rw [← hL]; exact ln_mA t (n * n)
        have fin : ∀ (s : XW) (u : Option Value), mFr t s → rK t s → s.2.1 L = n * n → (∀ r c, r < n → c < n → xIA s L (n * r + c) = iI (movE n C m.toNat r c)) → ∃ w', xr M_move 0 126 [some (.ref 34), some (.int (iI z)), some (.int (iI m)), some (.int (iI (n : Int))), some (.ref L), some (.int (iI ((0 : Nat) : Int))), u] [] (0, 100 - n * n) s = some (.int (bI true), w') ∧ IM w' (setT A z.toNat n (movC n C m.toNat)) ∧ mFr w w' := by
          intro s u k1 k2 k3 k4
          have hs := IM_K h0 (k1.1.G h0.1) k2
          refine x_nest (fun (i : Nat) (q : XW) (u : Option Value) => xr M_move 0 126 [some (.ref 34), some (.int (iI z)), some (.int (iI m)), some (.int (iI (n : Int))), some (.ref L), some (.int (iI i)), u] [] (0, 100 - n * n) q)
            (fun (i j : Nat) (q : XW) (_ : Unit) => xr M_move 0 135 [some (.ref 34), some (.int (iI z)), some (.int (iI m)), some (.int (iI (n : Int))), some (.ref L), some (.int (iI i)), some (.int (iI j))] [] (0, 100 - n * n) q) n (fun _ => n)
            (fun i j q => mFr s q ∧ rOut s q z.toNat ∧ xIA q 35 z.toNat = iI (n : Int) ∧ xIA q L = xIA s L ∧ q.2.1 L = n * n ∧ ∀ r c, (r < i ∧ c < n) ∨ (r = i ∧ c < j) → xIA q 36 ((z.toNat * 10 + r) * 10 + c) = iI (movE n C m.toNat r c)) (fun o => ∃ w', o = some (.int (bI true), w') ∧ IM w' (setT A z.toNat n (movC n C m.toNat)) ∧ mFr w w')
            (fun i q u hi hq => ⟨(), ?_⟩) (fun i j q u hi hj hq => Or.inr ⟨xpI q 36 ((z.toNat * 10 + i) * 10 + j) (iI (movE n C m.toNat i j)), (), ?_, ?_, ?_, ?_, ?_, hq.2.2.2.2.1, ?_⟩) (fun i q u hi hq => ⟨some (.int (iI (n : Int))), ?_, hq.1, hq.2.1, hq.2.2.1, hq.2.2.2.1, hq.2.2.2.2.1, fun r c hr => ?_⟩) (fun q u hq => ⟨q, ?_, ?_, (f0.tr k1).tr hq.1⟩) s u ⟨mFr.rf _, rOut.rf _ _, ?_, rfl, k3, fun r c hr => by omega⟩
          · rw [q_M_move_126]
            exact s_lef (by omega) rfl
          · have hGq := hq.1.1.G hs.1
            have ii := idx i j hi hj
            rw [q_M_move_135, iI_mul, iI_add, iI_add, icast, iI_natk _ (by omega), hq.2.2.2.1, k4 i j hi hj]
            exact s_lef (by omega) (s_g (xoa_late hlate hq.2.2.2.2.1 (xin_t (by omega))) (s_g rfl (s_V (r_aw hGq z.toNat i j (by omega) _) rfl)))
          · exact hq.1.tr (mFr_I (by decide))
          · exact hq.2.1.tr (rOut_a (by omega) (by omega))
          · rw [a_pI, if_neg (by decide)]; exact hq.2.2.1
          · rw [← hq.2.2.2.1]; exact funext fun k => (by rw [a_pI, if_neg (by omega)])
          · intro r c hr
            rw [a_pI, if_pos rfl]
            by_cases e : r = i ∧ c = j
            · rw [if_pos (by rw [e.1, e.2]), e.1, e.2]
            · rw [if_neg (by omega)]; exact hq.2.2.2.2.2 r c (by omega)
          · rw [q_M_move_135]
            refine s_let (by omega) ?_
            rw [q_M_move_166, iI_add]; rfl
          · exact hq.2.2.2.2.2 r c (by omega)
          · rw [q_M_move_126]
            refine s_let (by omega) ?_
            rw [q_M_move_172, xbz_1]
          · exact IM_setT hs (by omega) (hq.1.1.G hs.1) ⟨hn, asm_mov tt.2.1 (by omega), hq.2.2.1, fun i j hi hj => by rw [dA_mov]; exact hq.2.2.2.2.2 i j (Or.inl ⟨hi, hj⟩)⟩ hq.2.1.1 hq.2.1.2.1 hq.2.1.2.2.1 hq.2.1.2.2.2.1 hq.2.1.2.2.2.2
          · have := (hs.2.1 z.toNat (by omega)).2.2.1
            rw [hN] at this; exact this
        have key : ∃ w', xr M_move 0 36 [some (.ref 34), some (.int (iI z)), some (.int (iI m)), some (.int (iI (n : Int))), some (.ref L), some (.int (iI ((0 : Nat) : Int))), none] [] (0, 100 - n * n) (xmA t (n * n)) = some (.int (bI true), w') ∧ IM w' (setT A z.toNat n (movC n C m.toNat)) ∧ mFr w w' := by
          refine x_nest (fun (i : Nat) (q : XW) (u : Option Value) => xr M_move 0 36 [some (.ref 34), some (.int (iI z)), some (.int (iI m)), some (.int (iI (n : Int))), some (.ref L), some (.int (iI i)), u] [] (0, 100 - n * n) q)
            (fun (i j : Nat) (q : XW) (_ : Unit) => xr M_move 0 45 [some (.ref 34), some (.int (iI z)), some (.int (iI m)), some (.int (iI (n : Int))), some (.ref L), some (.int (iI i)), some (.int (iI j))] [] (0, 100 - n * n) q) n (fun _ => n)
            (fun i j q => mFr t q ∧ rK t q ∧ q.2.1 L = n * n ∧ ∀ r c, (r < i ∧ c < n) ∨ (r = i ∧ c < j ∧ i < n) → xIA q L (n * r + c) = iI (movE n C m.toNat r c)) (fun o => ∃ w', o = some (.int (bI true), w') ∧ IM w' (setT A z.toNat n (movC n C m.toNat)) ∧ mFr w w')
            (fun i q u hi hq => ⟨(), ?_⟩) (fun i j q u hi hj hq => Or.inr ⟨xpI q L (n * i + j) (iI (movE n C m.toNat i j)), (), ?_, hq.1.tr (mFr_I (by omega)), hq.2.1.tr (rK_I (by omega)), hq.2.2.1, fun r c hr => ?_⟩) (fun i q u hi hq => ⟨some (.int (iI (n : Int))), ?_, hq.1, hq.2.1, hq.2.2.1, fun r c hr => ?_⟩) (fun q u hq => ?_) (xmA t (n * n)) none ⟨fA, kA, lnA, fun r c hr => by omega⟩
          · rw [q_M_move_36]
            exact s_lef (by omega) rfl
          · have hGq := hq.1.1.G h0.1
            have rtq := rt_K tt hq.2.1
            have ii := idx i j hi hj
            have last : xr M_move 0 110 [some (.ref 34), some (.int (iI z)), some (.int (iI m)), some (.int (iI (n : Int))), some (.ref L), some (.int (iI i)), some (.int (iI j))] [.int (iI (movE n C m.toNat i j)), .int (iI ((n : Int) * i + j)), .ref L] (0, 100 - n * n) q = xr M_move 0 45 [some (.ref 34), some (.int (iI z)), some (.int (iI m)), some (.int (iI (n : Int))), some (.ref L), some (.int (iI i)), some (.int (iI ((j + 1 : Nat) : Int)))] [] (0, 100 - n * n) (xpI q L (n * i + j) (iI (movE n C m.toNat i j))) := by
              rw [q_M_move_110, iI_add, icast, iI_natk _ (by omega)]
              exact s_g (xoa_late hlate hq.2.2.1 (xin_t (by omega))) rfl
            rw [q_M_move_45, iI_zero]
            simp only [iI_mul, iI_add, iI_sub]
            refine s_lef (by omega) ?_
            rcases (show m = 0 ∨ m = 1 ∨ m = 2 by omega) with rfl | rfl | rfl
            · exact s_eqt rfl (s_g rfl (s_I (r_a hGq rtq (by omega) i (n - 1 - j) (by omega)) last))
            · refine s_eqf (by omega) ?_
              rw [q_M_move_80, iI_sub, iI_sub]
              exact s_eqt rfl (s_g rfl (s_I (r_a hGq rtq (by omega) (n - 1 - j) i (by omega)) last))
            · refine s_eqf (by omega) ?_
              rw [q_M_move_80]
              refine s_eqf (by omega) ?_
              rw [q_M_move_101]
              exact s_g rfl (s_I (r_a hGq rtq (by omega) j i (by omega)) last)
          · rw [a_pI, if_pos rfl]
            by_cases e : r = i ∧ c = j
            · rw [if_pos (by rw [e.1, e.2]), e.1, e.2]
            · rw [if_neg (fun q => e (iinj r c i j (by omega) hj q))]
              exact hq.2.2.2 r c (by omega)
          · rw [q_M_move_45]
            refine s_let (by omega) ?_
            rw [q_M_move_117, iI_add]; rfl
          · exact hq.2.2.2 r c (by omega)
          · obtain ⟨w', c1, c2, c3⟩ := fin q u hq.1 hq.2.1 hq.2.2.1 (fun r c hr hc => hq.2.2.2 r c (Or.inl ⟨hr, hc⟩))
            refine ⟨w', ?_, c2, c3⟩
            rw [q_M_move_36]
            refine s_let (by omega) ?_
            rw [q_M_move_123]; exact c1
        obtain ⟨w', k1, k2, k3⟩ := key
        refine ⟨w', s_g rfl (s_I kn (s_pt h1 ?_)), k2, k3⟩
        rw [iI_zero]
        refine s_ltf (by omega) (s_let (by omega) ?_)
        rw [q_M_move_19]
        refine s_g rfl (s_o g1 (s_g g2 ?_))
        rw [g3, iI_mul, esq, iI_natk _ (by omega), hL]
        refine s_g (xnok_late h0.1 (by omega) (by decide) ?_) k1
        show ((n * n : Nat) : Int).toNat ≤ 100
        omega
      · refine no (by omega) _ (s_g rfl (s_I kn (s_pt h1 ?_)))
        rw [iI_zero]
        exact s_ltf (by omega) (s_lef (by omega) rfl)
  · exact no (fun q => h1 q.1) _ (s_g rfl (s_I kn (s_pf h1 rfl)))
end XMOD
