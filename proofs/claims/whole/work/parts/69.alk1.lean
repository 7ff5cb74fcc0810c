/-! ===== ALIKE, 1 (own work): codes of joinings ===== -/
theorem pq_one (B v a : Nat) : ∀ k, a < k → pq B (fun x => if x = a then v else 0) k = v * B ^ a := by
  intro k
  induction k with
  | zero => intro h; exact absurd h (Nat.not_lt_zero _)
  | succ k ih =>
    intro h
    show pq B (fun x => if x = a then v else 0) k + (if k = a then v else 0) * B ^ k = _
    by_cases e : k = a
    · subst e
      rw [if_pos rfl, pq_congr (U := fun _ => 0) (fun x hx => if_neg (by omega)), pq_zero, Nat.zero_add]
    · rw [if_neg e, ih (by omega), Nat.zero_mul, Nat.add_zero]
def cod (n : Nat) (C : Nat → Nat → Int) : Nat := pq 16 (lkD n C) (2 * n)
def codP (n : Nat) (C : Nat → Nat → Int) (e : Nat) : Nat := pq 16 (fun f => if f < e ∨ lkD n C f < e then lkD n C f else 0) (2 * n)
section XALK1
variable {n : Nat} {C : Nat → Nat → Int}
theorem codP_zero : codP n C 0 = 0 := by
  unfold codP
  rw [pq_congr (U := fun _ => 0) (fun x hx => if_neg (by omega)), pq_zero]
theorem codP_end : codP n C (2 * n) = cod n C := pq_congr (fun x hx => if_pos (Or.inl hx))
theorem codP_seen (h : asm n C) (hn : n ≤ 10) {e : Nat} (he : e < 2 * n) (hs : lkD n C e < e) : codP n C (e + 1) = codP n C e := by
  refine pq_congr (fun f hf => ?_)
  have inv := lk_lk h hn hf
  by_cases q : f < e ∨ lkD n C f < e
  · rw [if_pos q, if_pos (by omega)]
  · rw [if_neg q, if_neg]
    intro z
    have z' : f = e ∨ lkD n C f = e := by omega
    rcases z' with y | y
    · rw [y] at q; omega
    · rw [y] at inv; omega
theorem codP_new (h : asm n C) (hn : n ≤ 10) {e : Nat} (he : e < 2 * n) (hs : ¬ lkD n C e < e) : codP n C (e + 1) = codP n C e + lkD n C e * 16 ^ e + e * 16 ^ lkD n C e := by
  have h1 := lk_ne h hn he
  have h2 := lk_lk h hn he
  have h3 := (ex_ok h hn he).2.2.2.2.1
  rw [← pq_one 16 (lkD n C e) e (2 * n) he, ← pq_one 16 e (lkD n C e) (2 * n) h3]
  unfold codP
  rw [← pq_add, ← pq_add]
  refine pq_congr (fun f hf => ?_)
  have inv := lk_lk h hn hf
  show _ = (if f < e ∨ lkD n C f < e then lkD n C f else 0) + (if f = e then lkD n C e else 0) + (if f = lkD n C e then e else 0)
  by_cases a : f = e
  · rw [a, if_pos (by omega), if_neg (by omega), if_pos rfl, if_neg (by omega)]; omega
  · by_cases b : f = lkD n C e
    · rw [b, h2, if_pos (by omega), if_neg (by omega), if_neg (by omega), if_pos rfl]; omega
    · have c : lkD n C f ≠ e := fun z => b (by rw [← z, inv])
      rw [if_neg a, if_neg b]
      by_cases q : f < e ∨ lkD n C f < e
      · rw [if_pos q, if_pos (by omega)]; omega
      · rw [if_neg q, if_neg (by omega)]
theorem lk_lt16 (h : asm n C) (hn : n ≤ 5) {e : Nat} (he : e < 2 * n) : lkD n C e < 16 := by
  have := (ex_ok h (by omega) he).2.2.2.2.1
  omega
theorem cod_lt (h : asm n C) (hn : n ≤ 5) : cod n C < 1099511627776 := by
  have h1 := pq_lt (B := 16) (V := lkD n C) (k := 2 * n) (fun x hx => lk_lt16 h hn hx)
  have h2 : (16 : Nat) ^ (2 * n) ≤ 16 ^ 10 := Nat.pow_le_pow_right (by decide) (by omega)
  have h3 : (16 : Nat) ^ 10 = 1099511627776 := by decide
  unfold cod
  omega
theorem cod_eq {D : Nat → Nat → Int} (h : asm n C) (g : asm n D) (hn : n ≤ 5) : cod n C = cod n D ↔ ∀ e, e < 2 * n → lkD n C e = lkD n D e := by
  constructor
  · intro q e he
    rw [← pq_digit (B := 16) (V := lkD n C) (by decide) (fun x hx => lk_lt16 h hn hx) he, ← pq_digit (B := 16) (V := lkD n D) (by decide) (fun x hx => lk_lt16 g hn hx) he]
    unfold cod at q
    rw [q]
  · intro q
    exact pq_congr q
/-- an end's place is seen as soon as the way from the other end was gone -/
theorem end_seen (h : asm n C) (hn : n ≤ 10) {e : Nat} (he : e < 2 * n) : (∃ e', e' < e ∧ rcD n C (plD (enD n e')) (plD (enD n e))) ↔ lkD n C e < e := by
  have L := LW_D h hn
  obtain ⟨a1, a2, a3⟩ := en_ok h he
  have hs : exD n C (rvD C (enD n e)) = true := by rw [ex_rv h a1]; exact a2
  constructor
  · rintro ⟨e', h1, h2⟩
    have he' : e' < 2 * n := by omega
    obtain ⟨b1, b2, b3⟩ := en_ok h he'
    have hs' : exD n C (rvD C (enD n e')) = true := by rw [ex_rv h b1]; exact b2
    obtain ⟨k1, k2, k3, k4, k5, k6⟩ := ex_ok h hn he'
    have es := (end_set L b1 (Z := fun _ => False) (fun _ _ _ q => q) hs' k2 k3 (plD (enD n e))).mpr (Or.inr h2)
    rcases es with z | ⟨k, hk, z⟩
    · exact z.elim
    · have V := it_vd L b1 k2
      rcases L.a4 _ _ (V k hk) a1 z.symm with y | y
      · cases k with
        | zero =>
          have y' : enD n e = enD n e' := y
          rw [y', b3] at a3; omega
        | succ m =>
          have := (L.a3 _ (V m (by omega)) (k2 m (by omega))).2
          rw [y] at hs
          have hs2 : exD n C (rvD C (nxD C (itD (nxD C) (enD n e') m))) = true := hs
          rw [this] at hs2; cases hs2
      · rw [y, (rv_ok h (V k hk)).2.1] at hs
        have ek : k = exN n C e' := by
          rcases Nat.lt_or_ge k (exN n C e') with q | q
          · rw [k2 k q] at hs; cases hs
          · omega
        have y2 : enD n e = enD n (lkD n C e') := by
          have exx : itD (nxD C) (enD n e') (exN n C e') = exX n C e' := by unfold exX; rfl
          rw [k6, y, ek, exx]
        have e3 := (en_ok h k5).2.2
        rw [← y2, a3] at e3
        rw [e3, lk_lk h hn he', ← e3]; exact h1
  · intro q
    have he' : lkD n C e < 2 * n := by omega
    obtain ⟨b1, b2, b3⟩ := en_ok h he'
    obtain ⟨k1, k2, k3, k4, k5, k6⟩ := ex_ok h hn he'
    rw [lk_lk h hn he] at k6
    refine ⟨lkD n C e, q, ?_⟩
    rw [k6, (rv_ok h k4).2.2.1]
    exact cl_it L b1 (rch_cl _) (rch_rf _) k2 _ (Nat.le_refl _)
end XALK1
theorem sh_cod : ∀ a : Nat, a < 10 → ∀ b : Nat, b < 10 → (iI (a : Int)).toInt64 <<< ((iI 4 * iI (b : Int)).toInt64 &&& 63) = lI ((a * 16 ^ b : Nat) : Int) := by decide +kernel
section XALK1B
variable {w : XW} {a n : Nat} {C : Nat → Nat → Int}
theorem l_joining (h : tb w a n C) (h5 : n ≤ 5) {B : Nat} (hP : lpI w B) (hB : B + 1 < 2147483648) : ∃ w', xm O_joiningOf 0 [.ref 13, .ref a] w = some (.long (lI (cod n C : Nat)), w') ∧ lpI w' (B + 1) ∧ xFr oS w w' := by
  have hn := h.2.2.1
  have hA := h.2.2.2.2.1
  obtain ⟨t1, t2, t3⟩ := isT_13 h.1
  obtain ⟨R, r1, r2, r3, r4⟩ := lp_round hP hB
  have f0 : xFr oS w (xpF w 13 1 (iI R)) := fr_pF rfl
  have g0 : xIF (xpF w 13 1 (iI R)) 13 1 = iI R := by rw [f_pF, if_pos rfl, if_pos rfl]
  rw [e_O_joiningOf, q_O_joiningOf_0, r2]
  suffices hs : ∃ w', xr O_joiningOf 0 15 [some (.ref 13), some (.ref a), some (.long (lI (codP n C 0 : Nat))), some (.retAddr 7), some (.int (iI ((0 : Nat) : Int))), none] [] (0, 0) (xpF w 13 1 (iI R)) = some (.long (lI (cod n C : Nat)), w') ∧ lpI w' (B + 1) ∧ xFr oS w w' by
    obtain ⟨w', k1, k2⟩ := hs
    rw [codP_zero] at k1
    exact ⟨w', s_g rfl (s_g rfl k1), k2⟩
  refine x_loop (fun (e : Nat) (s : XW) (u : Option Value) => xr O_joiningOf 0 15 [some (.ref 13), some (.ref a), some (.long (lI (codP n C e : Nat))), some (.retAddr 7), some (.int (iI (e : Int))), u] [] (0, 0) s) (2 * n)
    (fun e s => xFr oS w s ∧ xIF s 13 1 = iI R ∧ mrk (xpF w 13 1 (iI R)) s R (fun u => ∃ e', e' < e ∧ rcD n C (plD (enD n e')) u)) (fun o => ∃ w', o = some (.long (lI (cod n C : Nat)), w') ∧ lpI w' (B + 1) ∧ xFr oS w w') (fun e s u he hp => Or.inr ?_) (fun s u hp => ⟨s, ?_, lp_end r1 hp.2.1 r4 hp.2.2, hp.1⟩) (xpF w 13 1 (iI R)) none ⟨f0, g0, mrk_cg (mrk_rf _ _) (fun j => ⟨fun q => q.elim, fun q => by obtain ⟨k, hk, _⟩ := q; omega⟩)⟩
  · obtain ⟨p1, p2, p3⟩ := hp
    obtain ⟨s1, a1, a2, a3, a4⟩ := l_goToEnd p2 hn he (z := (n : Int)) ⟨rfl, rfl⟩
    have m1 : mrk (xpF w 13 1 (iI R)) s1 R (fun u => ∃ e', e' < e ∧ rcD n C (plD (enD n e')) u) := ⟨fun j q => by rw [a4]; exact p3.1 j q, fun j q => by rw [a4]; exact p3.2 j q⟩
    have cP : clD n C (fun u => ∃ e', e' < e ∧ rcD n C (plD (enD n e')) u) := fun x hx hex hq => by
      obtain ⟨e', q1, q2⟩ := hq
      exact ⟨e', q1, rch_cl _ x hx hex q2⟩
    have h1 := h.fr (p1.tr a3) t1 t2
    obtain ⟨b, s2, b1, b2, b3, b4, b5, b6⟩ := f_from_end h1 r3 m1 cP he a2
    have h2 := h1.fr b5 t1 t2
    rw [end_seen hA hn.2 he] at b2
    have hs0 := (h.fr p1 t1 t2).2.2.2.1
    have nxt : mrk (xpF w 13 1 (iI R)) s2 R (fun u => ∃ e', e' < e + 1 ∧ rcD n C (plD (enD n e')) u) := mrk_cg b6 (fun u => ⟨fun z => z.elim (fun y => by obtain ⟨e', q1, q2⟩ := y; exact ⟨e', by omega, q2⟩) (fun y => ⟨e, by omega, y⟩), fun z => by
      obtain ⟨e', q1, q2⟩ := z
      by_cases y : e' = e
      · rw [y] at q2; exact Or.inr q2
      · exact Or.inl ⟨e', by omega, q2⟩⟩)
    by_cases q : lkD n C e < e
    · have bf : b = false := by
        cases hb : b with
        | false => rfl
        | true => exact absurd q (b2.mp hb)
      refine ⟨s2, u, ?_, (p1.tr a3).tr b5, b4, nxt⟩
      show xr O_joiningOf 0 15 _ [] (0, 0) s = _
      rw [q_O_joiningOf_15, hs0, iI_mul]
      refine s_g (T_ok h.1) (s_lef (by omega) (s_g (T_ok h.1) (s_g rfl (s_V a1 (s_g rfl (s_I b1 (s_bf bf ?_)))))))
      rw [q_O_joiningOf_76, iI_add, codP_seen hA hn.2 he q]; rfl
    · have bt : b = true := b2.mpr q
      obtain ⟨k1, k2, k3, k4, k5, k6⟩ := ex_ok hA hn.2 he
      have rv := (rv_ok hA k4).1
      have eh := l_endHere (b3 bt) hn rv.1 rv.2.1 rv.2.2.1 (z := (n : Int)) rfl
      have el : ehD n (rvD C (exX n C e)).1 (rvD C (exX n C e)).2.1 (rvD C (exX n C e)).2.2 = lkD n C e := by
        unfold lkD
        generalize exX n C e = y
        rfl
      rw [el] at eh
      have ec : ((codP n C (e + 1) : Nat) : Int) = (codP n C e : Nat) + (lkD n C e * 16 ^ e : Nat) + (e * 16 ^ lkD n C e : Nat) := by rw [codP_new hA hn.2 he q, Int.natCast_add, Int.natCast_add]
      refine ⟨s2, some (.int (iI (lkD n C e : Nat))), ?_, (p1.tr a3).tr b5, b4, nxt⟩
      show xr O_joiningOf 0 15 _ [] (0, 0) s = _
      rw [q_O_joiningOf_15, hs0, iI_mul]
      refine s_g (T_ok h.1) (s_lef (by omega) (s_g (T_ok h.1) (s_g rfl (s_V a1 (s_g rfl (s_I b1 (s_bt bt ?_)))))))
      rw [h2.2.2.2.1]
      refine s_g (T_ok h.1) (s_g rfl (s_I eh ?_))
      rw [sh_cod _ (by omega) _ (by omega), sh_cod _ (by omega) _ (by omega), q_O_joiningOf_76, iI_add, show (e : Int) + 1 = ((e + 1 : Nat) : Int) from rfl, lI_add, lI_add, ← ec]
  · show xr O_joiningOf 0 15 _ [] (0, 0) s = _
    rw [q_O_joiningOf_15, (h.fr hp.1 t1 t2).2.2.2.1, iI_mul]
    refine s_g (T_ok h.1) (s_let (by omega) ?_)
    rw [q_O_joiningOf_82, codP_end]
end XALK1B
