/-! ===== NUMBERS, 5 (own work): the reference's ways; count, first, weight ===== -/
theorem toR_full (m : Nat) : toR m (2 ^ m - 1) = 2 ^ m - 1 := by
  induction m with
  | zero => rfl
  | succ m ih =>
    have hp := pow_pos2 m
    have t := top_hi (m := m) (x := 2 ^ m - 1) (by omega)
    have e : 2 ^ (m + 1) - 1 = 2 ^ m + (2 ^ m - 1) := by rw [Nat.pow_succ]; omega
    rw [e]
    show (2 ^ m + (2 ^ m - 1)) / 2 ^ m + 2 * toR m ((2 ^ m + (2 ^ m - 1)) % 2 ^ m) = _
    rw [t.1, t.2, ih]; omega
theorem toC_full (m : Nat) : toC m (2 ^ m - 1) = 2 ^ m - 1 := by
  have hp := pow_pos2 m
  have := toC_toR m (2 ^ m - 1) (by omega)
  rwa [toR_full] at this
theorem cB_zero (k : Nat) : cB 0 k = 0 := by
  induction k with
  | zero => rfl
  | succ k ih => show cB 0 k + 0 / 2 ^ k % 2 = 0; rw [ih, Nat.zero_div]
theorem cB_fullI {n s : Nat} (hs : s < 2 ^ n) : cB s n = n ↔ s = 2 ^ n - 1 := by
  rw [← cB_pop, pop_full n _ (toC_lt n s)]
  constructor
  · intro h
    have := toR_toC n s hs
    rw [h, toR_full] at this
    exact this.symm
  · intro h; rw [h, toC_full]
def RW (w : XW) (n : Nat) : Prop := ∀ s, 1 ≤ s → s < 2 ^ n → xLA w 39 s = lI (wy n (toC n s) : Nat)
def wI (w : XW) : Prop := xIF w 34 10 = iI (-1) ∨ ∃ n : Nat, (1 ≤ n ∧ n ≤ 13) ∧ xIF w 34 10 = iI n ∧ RW w n
theorem wI_m {w w' : XW} (h : wI w) (f : mFr w w') : wI w' := by
  rcases h with q | ⟨n, q1, q2, q3⟩
  · exact Or.inl (by rw [f.2.1]; exact q)
  · exact Or.inr ⟨n, q1, by rw [f.2.1]; exact q2, fun s h1 h2 => by rw [f.2.2]; exact q3 s h1 h2⟩
theorem wI_fr {w w' : XW} {S : Nat → Bool} (h : wI w) (f : xFr S w w') (h1 : S 34 = false) (h2 : S 39 = false) : wI w' := by
  rcases h with q | ⟨n, q1, q2, q3⟩
  · exact Or.inl (by rw [f.f (by decide) h1]; exact q)
  · exact Or.inr ⟨n, q1, by rw [f.f (by decide) h1]; exact q2, fun s g1 g2 => by rw [f.l (by decide) h2]; exact q3 s g1 g2⟩
/-- late arrays are kept -/
def lK (w w' : XW) : Prop := xn w' = xn w ∧ w'.2.1 = w.2.1 ∧ ∀ a, 43 ≤ a → xIA w' a = xIA w a
theorem lK.rf (w : XW) : lK w w := ⟨rfl, rfl, fun _ _ => rfl⟩
theorem lK.tr {w w1 w2 : XW} (h : lK w w1) (g : lK w1 w2) : lK w w2 := ⟨g.1.trans h.1, g.2.1.trans h.2.1, fun a ha => (g.2.2 a ha).trans (h.2.2 a ha)⟩
theorem lK_F {w : XW} {a k : Nat} {v : Int32} : lK w (xpF w a k v) := ⟨rfl, rfl, fun _ _ => rfl⟩
theorem lK_L {w : XW} {a k : Nat} {v : Int64} : lK w (xpL w a k v) := ⟨rfl, rfl, fun _ _ => rfl⟩
theorem lK_I {w : XW} {a k : Nat} {v : Int32} (h : a < 43) : lK w (xpI w a k v) := ⟨rfl, rfl, fun b hb => funext fun j => (by rw [a_pI, if_neg (by omega)])⟩
def kK (w w' : XW) : Prop := rK w w' ∧ lK w w'
theorem kK.rf (w : XW) : kK w w := ⟨rK.rf w, lK.rf w⟩
theorem kK.tr {w w1 w2 : XW} (h : kK w w1) (g : kK w1 w2) : kK w w2 := ⟨h.1.tr g.1, h.2.tr g.2⟩
theorem kK_I {w : XW} {a k : Nat} {v : Int32} (h : 37 < a ∧ a < 43) : kK w (xpI w a k v) := ⟨rK_I h.1, lK_I h.2⟩
theorem kK_F {w : XW} {k : Nat} {v : Int32} (h : k ≠ 3 ∧ k ≠ 4) : kK w (xpF w 34 k v) := ⟨rK_F h, lK_F⟩
theorem kK_L {w : XW} {a k : Nat} {v : Int64} : kK w (xpL w a k v) := ⟨⟨rfl, rfl, rfl, rfl, rfl⟩, lK_L⟩
theorem IM_kK {w w' : XW} {A : AS} (h : IM w A) (hG : XG w') (k : kK w w') : IM w' A := IM_K h hG k.1
theorem rt_kK {w w' : XW} {p n : Nat} {C : Nat → Nat → Int} (h : rt w p n C) (k : kK w w') : rt w' p n C := rt_K h k.1
section XNUM
variable {w : XW} {A : AS}
theorem r_work (hG : XG w) (hI : wI w) {z : Int} (n : Nat) (hz : z = n ∧ 1 ≤ n ∧ n ≤ 13) : ∃ w', xm M_work 0 [.ref 34, .int (iI z)] w = some (.null, w') ∧ xFr mT w w' ∧ kK w w' ∧ xIF w' 34 10 = iI n ∧ RW w' n := by
  obtain ⟨rfl, hn⟩ := hz
  have p13 : (2 : Nat) ^ n ≤ 8192 := Nat.le_trans (Nat.pow_le_pow_right (by decide) hn.2) (by decide)
  have p2 : (2 : Nat) ^ 1 ≤ 2 ^ n := Nat.pow_le_pow_right (by decide) hn.1
  rw [Nat.pow_one] at p2
  by_cases same : xIF w 34 10 = iI n
  · refine ⟨w, ?_, xFr.rf _ _, kK.rf _, same, ?_⟩
    · rw [e_M_work, q_M_work_0]
      exact s_g rfl (s_t same rfl)
    · rcases hI with q | ⟨k, q1, q2, q3⟩
      · rw [q] at same
        have := (iI_eq (a := -1) (b := (n : Int)) (by omega) (by omega)).mp same
        omega
      · rw [q2] at same
        have := (iI_eq (a := (k : Int)) (b := (n : Int)) (by omega) (by omega)).mp same
        have e : k = n := by omega
        rw [← e]; exact q3
  · have big : ∀ (t : XW), xFr mT w t → kK w t → xIF t 34 10 = iI n → ∃ w', xr M_work 0 22 [some (.ref 34), some (.int (iI (n : Int))), some (.int (iI ((2 ^ n - 1 : Nat) : Int))), some (.int (iI ((0 : Nat) : Int))), none] [] (0, 0) t = some (.null, w') ∧ xFr mT w w' ∧ kK w w' ∧ xIF w' 34 10 = iI n ∧ RW w' n := by
      intro t g1 g2 g3
      refine x_loop (fun (k : Nat) (q : XW) (_ : Unit) => xr M_work 0 22 [some (.ref 34), some (.int (iI (n : Int))), some (.int (iI ((2 ^ n - 1 : Nat) : Int))), some (.int (iI k)), none] [] (0, 0) q) (2 ^ n)
        (fun k q => xFr mT w q ∧ kK w q ∧ xIF q 34 10 = iI n) (fun o => ∃ w', o = some (.null, w') ∧ xFr mT w w' ∧ kK w w' ∧ xIF w' 34 10 = iI n ∧ RW w' n) (fun k q u hk hp => Or.inr ⟨xpL q 39 k (lI 0), (), ?_, hp.1.tr (fr_pL rfl), hp.2.1.tr kK_L, hp.2.2⟩) (fun q u hp => ?_) t () ⟨g1, g2, g3⟩
      · rw [q_M_work_22, iI_natk k (by omega), iI_add]
        exact s_ltf (by omega) (s_g rfl (s_o ((hp.1.G hG).r (by decide) rfl) (s_g (xin_t (n := 8192) (by omega)) rfl)))
      · obtain ⟨g1, g2, g3⟩ := hp
        have hGq := g1.G hG
        have key : ∃ w', xr M_work 0 51 [some (.ref 34), some (.int (iI (n : Int))), some (.int (iI ((2 ^ n - 1 : Nat) : Int))), some (.int (iI ((n : Int) - 1 - ((0 : Nat) : Int)))), none] [] (0, 0) (xpL q 39 (2 ^ n - 1) (lI 1)) = some (.null, w') ∧ xFr mT w w' ∧ kK w w' ∧ xIF w' 34 10 = iI n ∧ RW w' n := by
          refine x_nest (fun (i : Nat) (t : XW) (u : Option Value) => xr M_work 0 51 [some (.ref 34), some (.int (iI (n : Int))), some (.int (iI ((2 ^ n - 1 : Nat) : Int))), some (.int (iI ((n : Int) - 1 - (i : Int)))), u] [] (0, 0) t)
            (fun (i j : Nat) (t : XW) (_ : Unit) => xr M_work 0 58 [some (.ref 34), some (.int (iI (n : Int))), some (.int (iI ((2 ^ n - 1 : Nat) : Int))), some (.int (iI ((n : Int) - 1 - (i : Int)))), some (.int (iI ((j : Int) + 1)))] [] (0, 0) t) (n - 1) (fun _ => 2 ^ n - 2)
            (fun i j t => xFr mT w t ∧ kK w t ∧ xIF t 34 10 = iI n ∧ (∀ s, 1 ≤ s → s < 2 ^ n → n - 1 - i < cB s n → xLA t 39 s = lI (wy n (toC n s) : Nat)) ∧ ∀ s, 1 ≤ s → s < j + 1 → cB s n = n - 1 - i → i < n - 1 → xLA t 39 s = lI (wy n (toC n s) : Nat)) (fun o => ∃ w', o = some (.null, w') ∧ xFr mT w w' ∧ kK w w' ∧ xIF w' 34 10 = iI n ∧ RW w' n)
            (fun i t u hi hp => ⟨(), ?_⟩) (fun i j t u hi hj hp => Or.inr ?_) (fun i t u hi hp => ⟨some (.int (iI ((2 ^ n - 1 : Nat) : Int))), ?_, hp.1, hp.2.1, hp.2.2.1, fun s h1 h2 h3 => ?_, fun s h1 h2 => by omega⟩) (fun t u hp => ⟨t, ?_, hp.1, hp.2.1, hp.2.2.1, fun s h1 h2 => hp.2.2.2.1 s h1 h2 ?_⟩) _ none ⟨g1.tr (fr_pL rfl), g2.tr kK_L, g3, fun s h1 h2 h3 => ?_, fun s h1 h2 => by omega⟩
          · rw [q_M_work_51, iI_zero]
            exact s_lef (by omega) rfl
          · obtain ⟨p1, p2', p3, p4, p5⟩ := hp
            have hs : j + 1 < 2 ^ n := by omega
            have hb := cB_hi hs 20 (by omega)
            have hGt := p1.G hG
            have bt := r_bits (w := t) (s := j + 1) (by omega)
            rw [hb] at bt
            have cl := cB_le (j + 1) n
            have go : ∀ t', xFr mT w t' → kK w t' → xIF t' 34 10 = iI n → (∀ s, 1 ≤ s → s < 2 ^ n → n - 1 - i < cB s n → xLA t' 39 s = lI (wy n (toC n s) : Nat)) → (∀ s, 1 ≤ s → s < j + 1 + 1 → cB s n = n - 1 - i → i < n - 1 → xLA t' 39 s = lI (wy n (toC n s) : Nat)) → xr M_work 0 58 [some (.ref 34), some (.int (iI (n : Int))), some (.int (iI ((2 ^ n - 1 : Nat) : Int))), some (.int (iI ((n : Int) - 1 - (i : Int)))), some (.int (iI ((j : Int) + 1)))] [] (0, 0) t = xr M_work 0 93 [some (.ref 34), some (.int (iI (n : Int))), some (.int (iI ((2 ^ n - 1 : Nat) : Int))), some (.int (iI ((n : Int) - 1 - (i : Int)))), some (.int (iI ((j : Int) + 1)))] [] (0, 0) t' → ∃ (s' : XW) (v' : Unit), xr M_work 0 58 [some (.ref 34), some (.int (iI (n : Int))), some (.int (iI ((2 ^ n - 1 : Nat) : Int))), some (.int (iI ((n : Int) - 1 - (i : Int)))), some (.int (iI ((j : Int) + 1)))] [] (0, 0) t = xr M_work 0 58 [some (.ref 34), some (.int (iI (n : Int))), some (.int (iI ((2 ^ n - 1 : Nat) : Int))), some (.int (iI ((n : Int) - 1 - (i : Int)))), some (.int (iI (((j + 1 : Nat) : Int) + 1)))] [] (0, 0) s' ∧ xFr mT w s' ∧ kK w s' ∧ xIF s' 34 10 = iI n ∧ (∀ s, 1 ≤ s → s < 2 ^ n → n - 1 - i < cB s n → xLA s' 39 s = lI (wy n (toC n s) : Nat)) ∧ ∀ s, 1 ≤ s → s < j + 1 + 1 → cB s n = n - 1 - i → i < n - 1 → xLA s' 39 s = lI (wy n (toC n s) : Nat) := by
              intro t' k1 k2 k3 k4 k5 k6
              refine ⟨t', (), ?_, k1, k2, k3, k4, k5⟩
              rw [k6, q_M_work_93, iI_add]; rfl
            by_cases hq : cB (j + 1) n = n - 1 - i
            · have bl := r_below0 hGt hn.2 hs n 13 0 0 0 (by omega) (by omega) (by omega) (by decide)
              have vs : lsum ((fl n (toC n ((j + 1) / 2 ^ 0)) 0).map (fun x => xLA t 39 (0 + 2 ^ 0 * toR n x))) = lI (wy n (toC n (j + 1)) : Nat) := by
                rw [Nat.pow_zero, Nat.div_one]
                have tl := toC_lt n (j + 1)
                have hne : ¬ toC n (j + 1) = 2 ^ n - 1 := fun q => by
                  have := (pop_full n _ tl).mpr q
                  rw [cB_pop] at this
                  omega
                rw [wy_eq tl, if_neg hne, ← lsum_lI]
                congr 1
                exact List.map_congr_left (fun x hx => by
                  have xl := fl_lt n _ 0 x hx
                  have xp := fl_pop n _ 0 x tl (by omega) hx
                  rw [cB_pop] at xp
                  have rl := toR_lt n x xl
                  have rp : cB (toR n x) n = pop n x := by rw [← cB_pop, toC_toR n x xl]
                  have r1 : 1 ≤ toR n x := by
                    rcases Nat.eq_zero_or_pos (toR n x) with z | z
                    · rw [z, cB_zero] at rp; omega
                    · exact z
                  rw [Nat.zero_add, Nat.one_mul, p4 (toR n x) r1 rl (by omega), toC_toR n x xl])
              rw [vs] at bl
              refine go (xpL t 39 (j + 1) (lI (wy n (toC n (j + 1)) : Nat))) (p1.tr (fr_pL rfl)) (p2'.tr kK_L) p3 (fun s h1 h2 h3 => ?_) (fun s h1 h2 h3 h4 => ?_) ?_
              · rw [l_pL, if_pos rfl, if_neg (fun q => by rw [q] at h3; omega)]; exact p4 s h1 h2 h3
              · rw [l_pL, if_pos rfl]
                by_cases e : s = j + 1
                · rw [if_pos e, e]
                · rw [if_neg e]; exact p5 s h1 (by omega) h3 h4
              · rw [q_M_work_58]
                refine s_lef (by omega) (s_I bt (s_eqt (by omega) ?_))
                rw [q_M_work_76]
                refine s_g rfl (s_o (hGt.r (by decide) rfl) (s_g rfl (s_J bl (s_g (xin_t (n := 8192) (by omega)) ?_))))
                rw [iI_nat (by omega), show ((j : Int) + 1).toNat = j + 1 by omega]
            · refine go t p1 p2' p3 p4 (fun s h1 h2 h3 h4 => ?_) ?_
              · by_cases e : s = j + 1
                · rw [e] at h3; exact absurd h3 hq
                · exact p5 s h1 (by omega) h3 h4
              · rw [q_M_work_58]
                exact s_lef (by omega) (s_I bt (s_eqf (by omega) rfl))
          · rw [q_M_work_58]
            refine s_let (by omega) ?_
            rw [q_M_work_99, iI_add, show (n : Int) - 1 - (i : Int) + -1 = (n : Int) - 1 - ((i + 1 : Nat) : Int) by omega, show ((2 ^ n - 2 : Nat) : Int) + 1 = ((2 ^ n - 1 : Nat) : Int) by omega]
          · by_cases e : cB s n = n - 1 - i
            · have hne : s ≠ 2 ^ n - 1 := fun q => by have := (cB_fullI h2).mpr q; omega
              exact hp.2.2.2.2 s h1 (by omega) e hi
            · exact hp.2.2.2.1 s h1 h2 (by omega)
          · rw [q_M_work_51, iI_zero]
            refine s_let (by omega) ?_
            rw [q_M_work_105]
          · rcases Nat.eq_zero_or_pos (cB s n) with e | e
            · exfalso
              have h3 : pop n (toC n s) = 0 := by rw [cB_pop]; exact e
              have z : ∀ m a, a < 2 ^ m → pop m a = 0 → a = 0 := by
                intro m
                induction m with
                | zero => intro a ha _; have : a < 1 := ha; omega
                | succ m ih =>
                  intro a ha hp0
                  have hm := Nat.mod_lt a (pow_pos2 m)
                  unfold pop at hp0
                  have h6 := Nat.add_eq_zero_iff.mp hp0
                  have h7 := ih (a % 2 ^ m) hm h6.2
                  rcases top_cases ha with y | y
                  · rw [← (top_lo y.2).2]; exact h7
                  · rw [h6.1] at y; exact absurd y.1 (by decide)
              have h4 := z n _ (toC_lt n s) h3
              have h5 := toR_toC n s h2
              rw [h4] at h5
              have z2 : ∀ m, toR m 0 = 0 := fun m => by
                induction m with
                | zero => rfl
                | succ m ih => show 0 / 2 ^ m + 2 * toR m (0 % 2 ^ m) = 0; rw [Nat.zero_div, Nat.zero_mod, ih]
              rw [z2] at h5
              omega
            · omega
          · have hc := cB_le s n
            have e : s = 2 ^ n - 1 := (cB_fullI h2).mp (by omega)
            rw [l_pL, if_pos rfl, if_pos e, e, toC_full, wy_eq (by omega), if_pos rfl]; rfl
        obtain ⟨w', k1, k2⟩ := key
        refine ⟨w', ?_, k2⟩
        rw [q_M_work_22]
        refine s_ltt (by omega) ?_
        rw [q_M_work_40, iI_natk (2 ^ n - 1) (by omega), iI_sub]
        refine s_g rfl (s_o (hGq.r (by decide) rfl) (s_g (xin_t (n := 8192) (by omega)) ?_))
        rw [show ((n : Int) - 1 - ((0 : Nat) : Int)) = (n : Int) - 1 by omega] at k1
        exact k1
    obtain ⟨w', k1, k2⟩ := big (xpF w 34 10 (iI (n : Int))) (fr_pF rfl) (kK_F (by decide)) (by rw [f_pF, if_pos rfl, if_pos rfl])
    refine ⟨w', ?_, k2⟩
    rw [e_M_work, q_M_work_0]
    refine s_g rfl (s_f same ?_)
    rw [q_M_work_9, iI_pow (by omega), iI_sub, show ((2 ^ n : Nat) : Int) - 1 = ((2 ^ n - 1 : Nat) : Int) by omega]
    exact s_g rfl k1
end XNUM
