/-! ===== THE REFERENCE, 2 (own work): put, the first fault, take; size, at, sum ===== -/
section XMOD
variable {w : XW} {A : AS}
theorem r_put (h : IM w A) {zi zj v : Int} (hi : i32 zi) (hj : i32 zj) (hv : i32 v) : ∃ w', xm M_put 0 [.ref 34, .int (iI zi), .int (iI zj), .int (iI v)] w = some (.int (bI (o_put A zi zj v).1), w') ∧ IM w' (o_put A zi zj v).2 ∧ mFr w w' := by
  have h0 := IM_F (k := 0) (v := iI 0) h (by decide)
  have f0 : mFr w (xpF w 34 0 (iI 0)) := mFr_F (by decide)
  obtain ⟨hs, hn, e3, e4, hc⟩ := h0.2.2
  rw [e_M_put, q_M_put_0, e3, e4, iI_zero]
  have no : hasD A.2.2.1 A.2.2.2.1 zi zj = false → ∀ o, o = xr M_put 0 111 [some (.ref 34), some (.int (iI zi)), some (.int (iI zj)), some (.int (iI v)), none] [.int (iI 0)] (0, 0) (xpF w 34 0 (iI 0)) → ∃ w', xg (xok 34 7) (xg (xok 34 7) o) = some (.int (bI (o_put A zi zj v).1), w') ∧ IM w' (o_put A zi zj v).2 ∧ mFr w w' := fun q o ho => by
    rw [show o_put A zi zj v = (false, A) from if_neg (by rw [q]; decide)]
    refine ⟨_, s_g rfl (s_g rfl ?_), h0, f0⟩
    rw [ho, q_M_put_111]
    refine s_t rfl ?_
    rw [q_M_put_130, xbz_0]
  have yes : hasD A.2.2.1 A.2.2.2.1 zi zj = true → ∀ o, o = xr M_put 0 111 [some (.ref 34), some (.int (iI zi)), some (.int (iI zj)), some (.int (iI v)), none] [.int (iI 1)] (0, 0) (xpF w 34 0 (iI 0)) → ∃ w', xg (xok 34 7) (xg (xok 34 7) o) = some (.int (bI (o_put A zi zj v).1), w') ∧ IM w' (o_put A zi zj v).2 ∧ mFr w w' := fun q o ho => by
    have rg := hasD_rng hn.2 q
    rw [show o_put A zi zj v = (true, setD A A.2.2.1 A.2.2.2.1 (fun k => if k = zi.toNat * 11 + zj.toNat then v else A.2.2.2.2 k)) from if_pos q]
    refine ⟨xpI (xpF w 34 0 (iI 0)) 37 (zi.toNat * 11 + zj.toNat) (iI v), s_g rfl (s_g rfl ?_), ⟨(mFr_I (w := xpF w 34 0 (iI 0)) (a := 37) (by decide)).1.G h0.1, fun p hp => ?_, hs, hn, e3, e4, fun k hk => ?_⟩, f0.tr (mFr_I (by decide))⟩
    · rw [ho, q_M_put_111]
      refine s_f (by decide) (s_g rfl (s_o (h0.1.r (by decide) rfl) ?_))
      rw [iI_mul, iI_add]
      refine s_g (xin_t (n := 121) (by omega)) ?_
      rw [iI_nat (by omega), show (11 * zi + zj).toNat = zi.toNat * 11 + zj.toNat by omega, q_M_put_130, xbz_1]
    · have g := h0.2.1 p hp
      refine ⟨g.1, g.2.1, ?_, fun i j hi hj => ?_⟩
      · rw [a_pI, if_neg (by decide)]; exact g.2.2.1
      · rw [a_pI, if_neg (by decide)]; exact g.2.2.2 i j hi hj
    · rw [a_pI, if_pos rfl]
      show (if k = zi.toNat * 11 + zj.toNat then iI v else xIA (xpF w 34 0 (iI 0)) 37 k) = iI (if k = zi.toNat * 11 + zj.toNat then v else A.2.2.2.2 k) ∧ i32 (if k = zi.toNat * 11 + zj.toNat then v else A.2.2.2.2 k)
      by_cases e : k = zi.toNat * 11 + zj.toNat
      · rw [if_pos e, if_pos e]; exact ⟨rfl, hv⟩
      · rw [if_neg e, if_neg e]; exact hc k hk
  generalize hsg : A.2.2.1 = s at *
  generalize hng : A.2.2.2.1 = n at *
  match s, hs with
  | 0, _ =>
    have n40 : hasD 0 n zi zj = false → ∀ o, o = xr M_put 0 40 [some (.ref 34), some (.int (iI zi)), some (.int (iI zj)), some (.int (iI v)), none] [] (0, 0) (xpF w 34 0 (iI 0)) → _ := fun q o ho => no q o (by rw [ho, q_M_put_40])
    by_cases h1 : zi < 0
    · exact n40 (by rw [← Bool.not_eq_true]; unfold hasD; simp only [Bool.and_eq_true, decide_eq_true_eq]; omega) _ (s_eqt rfl (s_ltt (by omega) rfl))
    · by_cases h2 : (n : Int) ≤ zi
      · exact n40 (by rw [← Bool.not_eq_true]; unfold hasD; simp only [Bool.and_eq_true, decide_eq_true_eq]; omega) _ (s_eqt rfl (s_ltf (by omega) (s_g rfl (s_let (by omega) rfl))))
      · by_cases h3 : zj < 0
        · exact n40 (by rw [← Bool.not_eq_true]; unfold hasD; simp only [Bool.and_eq_true, decide_eq_true_eq]; omega) _ (s_eqt rfl (s_ltf (by omega) (s_g rfl (s_lef (by omega) (s_ltt (by omega) rfl)))))
        · by_cases h4 : (n : Int) ≤ zj
          · exact n40 (by rw [← Bool.not_eq_true]; unfold hasD; simp only [Bool.and_eq_true, decide_eq_true_eq]; omega) _ (s_eqt rfl (s_ltf (by omega) (s_g rfl (s_lef (by omega) (s_ltf (by omega) (s_g rfl (s_let (by omega) rfl)))))))
          · exact yes (by unfold hasD; simp only [Bool.and_eq_true, decide_eq_true_eq]; omega) _ (s_eqt rfl (s_ltf (by omega) (s_g rfl (s_lef (by omega) (s_ltf (by omega) (s_g rfl (s_lef (by omega) rfl)))))))
  | 1, _ =>
    have n80 : hasD 1 n zi zj = false → ∀ o, o = xr M_put 0 80 [some (.ref 34), some (.int (iI zi)), some (.int (iI zj)), some (.int (iI v)), none] [] (0, 0) (xpF w 34 0 (iI 0)) → _ := fun q o ho => no q o (by rw [ho, q_M_put_80])
    have n44 : ∀ o, o = xr M_put 0 44 [some (.ref 34), some (.int (iI zi)), some (.int (iI zj)), some (.int (iI v)), none] [] (0, 0) (xpF w 34 0 (iI 0)) → ∃ w', xg (xok 34 7) (xg (xok 34 7) o) = some (.int (bI (o_put A zi zj v).1), w') ∧ IM w' (o_put A zi zj v).2 ∧ mFr w w' := by
      intro o ho
      rw [q_M_put_44, e3, e4, iI_zero] at ho
      by_cases h1 : zi < 0
      · exact n80 (by rw [← Bool.not_eq_true]; unfold hasD; simp only [Bool.and_eq_true, decide_eq_true_eq]; omega) _ (ho.trans (s_g rfl (s_eqt rfl (s_ltt (by omega) rfl))))
      · by_cases h2 : (n : Int) < zi
        · exact n80 (by rw [← Bool.not_eq_true]; unfold hasD; simp only [Bool.and_eq_true, decide_eq_true_eq]; omega) _ (ho.trans (s_g rfl (s_eqt rfl (s_ltf (by omega) (s_g rfl (s_ltt (by omega) rfl))))))
        · by_cases h3 : zj < 0
          · exact n80 (by rw [← Bool.not_eq_true]; unfold hasD; simp only [Bool.and_eq_true, decide_eq_true_eq]; omega) _ (ho.trans (s_g rfl (s_eqt rfl (s_ltf (by omega) (s_g rfl (s_ltf (by omega) (s_ltt (by omega) rfl)))))))
          · by_cases h4 : (n : Int) < zj
            · exact n80 (by rw [← Bool.not_eq_true]; unfold hasD; simp only [Bool.and_eq_true, decide_eq_true_eq]; omega) _ (ho.trans (s_g rfl (s_eqt rfl (s_ltf (by omega) (s_g rfl (s_ltf (by omega) (s_ltf (by omega) (s_g rfl (s_ltt (by omega) rfl)))))))))
            · exact yes (by unfold hasD; simp only [Bool.and_eq_true, decide_eq_true_eq]; omega) _ (ho.trans (s_g rfl (s_eqt rfl (s_ltf (by omega) (s_g rfl (s_ltf (by omega) (s_ltf (by omega) (s_g rfl (s_ltf (by omega) rfl)))))))))
    exact n44 _ (s_eqf (by omega) rfl)
  | 2, _ =>
    have n110 : hasD 2 n zi zj = false → ∀ o, o = xr M_put 0 110 [some (.ref 34), some (.int (iI zi)), some (.int (iI zj)), some (.int (iI v)), none] [] (0, 0) (xpF w 34 0 (iI 0)) → _ := fun q o ho => no q o (by rw [ho, q_M_put_110])
    have n44 : ∀ o, o = xr M_put 0 44 [some (.ref 34), some (.int (iI zi)), some (.int (iI zj)), some (.int (iI v)), none] [] (0, 0) (xpF w 34 0 (iI 0)) → ∃ w', xg (xok 34 7) (xg (xok 34 7) o) = some (.int (bI (o_put A zi zj v).1), w') ∧ IM w' (o_put A zi zj v).2 ∧ mFr w w' := by
      intro o ho
      rw [q_M_put_44, e3] at ho
      have ho := ho.trans (s_g rfl (s_eqf (by omega) rfl))
      rw [q_M_put_84, e4, iI_zero] at ho
      by_cases h1 : zi < 1
      · exact n110 (by rw [← Bool.not_eq_true]; unfold hasD; simp only [Bool.and_eq_true, decide_eq_true_eq]; omega) _ (ho.trans (s_ltt (by omega) rfl))
      · by_cases h2 : (n : Int) < zi
        · exact n110 (by rw [← Bool.not_eq_true]; unfold hasD; simp only [Bool.and_eq_true, decide_eq_true_eq]; omega) _ (ho.trans (s_ltf (by omega) (s_g rfl (s_ltt (by omega) rfl))))
        · by_cases h3 : zj < 0
          · exact n110 (by rw [← Bool.not_eq_true]; unfold hasD; simp only [Bool.and_eq_true, decide_eq_true_eq]; omega) _ (ho.trans (s_ltf (by omega) (s_g rfl (s_ltf (by omega) (s_ltt (by omega) rfl)))))
          · by_cases h4 : zi ≤ zj
            · exact n110 (by rw [← Bool.not_eq_true]; unfold hasD; simp only [Bool.and_eq_true, decide_eq_true_eq]; omega) _ (ho.trans (s_ltf (by omega) (s_g rfl (s_ltf (by omega) (s_ltf (by omega) (s_let (by omega) rfl))))))
            · exact yes (by unfold hasD; simp only [Bool.and_eq_true, decide_eq_true_eq]; omega) _ (ho.trans (s_ltf (by omega) (s_g rfl (s_ltf (by omega) (s_ltf (by omega) (s_lef (by omega) rfl))))))
    exact n44 _ (s_eqf (by omega) rfl)
theorem r_isRight (hG : XG w) {s n : Nat} {d : Nat → Int} (h : rd w s n d) (row : Bool) {x : Int32} (hx : x = bI row) {zk : Int} (k : Nat) (hk : zk = k ∧ k < n) (f : Nat → Int) (hf : ∀ q, f q = (match row with
    | true => d (k * 11 + q)
    | false => d (q * 11 + k))) : xm M_isRight 0 [.ref 34, .int (iI zk), .int x] w = some (.int (bI (altB f n)), w) := by
  subst hx
  obtain ⟨rfl, hk⟩ := hk
  obtain ⟨hs, hn, e3, e4, hc⟩ := id h
  rw [e_M_isRight, q_M_isRight_0]
  refine x_loop (fun (q : Nat) (t : Int) (u : Option Value) => xr M_isRight 0 5 [some (.ref 34), some (.int (iI (k : Int))), some (.int (bI row)), some (.int (iI t)), some (.int (iI q)), u] [] (0, 0) w) n
    (fun q t => t = sumF f q ∧ ∀ r, r < q → 0 ≤ sumF f (r + 1) ∧ sumF f (r + 1) ≤ 1) (fun o => o = some (.int (bI (altB f n)), w)) (fun q t u hq hp => ?_) (fun t u hp => ?_) 0 none ⟨rfl, fun r hr => absurd hr (Nat.not_lt_zero _)⟩
  · obtain ⟨hp1, hp2⟩ := hp
    have hb := altP_pre hp2 (Nat.le_refl q)
    have hfq := hf q
    have hr : i32 (f q) := by
      rw [hfq]
      cases row with
      | true => exact (hc _ (by omega)).2
      | false => exact (hc _ (by omega)).2
    have hsum : sumF f (q + 1) = sumF f q + f q := rfl
    have head : ∀ x, xr M_isRight 0 35 [some (.ref 34), some (.int (iI (k : Int))), some (.int (bI row)), some (.int (iI t)), some (.int (iI q)), u] [.int (iI (f q))] (0, 0) w = x → xr M_isRight 0 5 [some (.ref 34), some (.int (iI (k : Int))), some (.int (bI row)), some (.int (iI t)), some (.int (iI q)), u] [] (0, 0) w = x := by
      intro x hx
      rw [q_M_isRight_5, e4]
      refine s_g rfl (s_lef (by omega) ?_)
      cases row with
      | true =>
        refine s_bt rfl (s_g rfl (s_I (r_d hG h k q (by omega)) ?_))
        have e : f q = d (k * 11 + q) := hfq
        rw [← e]; exact hx
      | false =>
        refine s_bf rfl ?_
        rw [q_M_isRight_28]
        refine s_g rfl (s_I (r_d hG h q k (by omega)) ?_)
        have e : f q = d (q * 11 + k) := hfq
        rw [← e]; exact hx
    have bad : ¬ (0 ≤ sumF f (q + 1) ∧ sumF f (q + 1) ≤ 1) → altB f n = false := fun z => altB_f (fun y => z (y.1 q hq))
    by_cases h1 : f q < -1
    · refine Or.inl (head _ ?_)
      rw [q_M_isRight_35]
      refine s_ltt (by omega) ?_
      rw [q_M_isRight_49, xbz_0, bad (by omega)]
    · by_cases h2 : f q ≤ 1
      · have go : ∀ x, xr M_isRight 0 51 [some (.ref 34), some (.int (iI (k : Int))), some (.int (bI row)), some (.int (iI t)), some (.int (iI q)), some (.int (iI (f q)))] [] (0, 0) w = x → xr M_isRight 0 35 [some (.ref 34), some (.int (iI (k : Int))), some (.int (bI row)), some (.int (iI t)), some (.int (iI q)), u] [.int (iI (f q))] (0, 0) w = x := fun x hx => by
          rw [q_M_isRight_35]
          exact s_ltf (by omega) (s_let (by omega) hx)
        by_cases h3 : t + f q < 0
        · refine Or.inl (head _ (go _ ?_))
          rw [q_M_isRight_51, iI_add, iI_zero]
          refine s_ltt (by omega) ?_
          rw [q_M_isRight_65, xbz_0, bad (by omega)]
        · by_cases h4 : t + f q ≤ 1
          · refine Or.inr ⟨t + f q, some (.int (iI (f q))), head _ (go _ ?_), by rw [hsum, hp1], fun r hr => ?_⟩
            · rw [q_M_isRight_51, iI_add, iI_zero]
              refine s_ltf (by omega) (s_let (by omega) ?_)
              rw [q_M_isRight_67, iI_add]; rfl
            · by_cases e : r = q
              · rw [e, hsum]; omega
              · exact hp2 r (by omega)
          · refine Or.inl (head _ (go _ ?_))
            rw [q_M_isRight_51, iI_add, iI_zero]
            refine s_ltf (by omega) (s_lef (by omega) ?_)
            rw [q_M_isRight_65, xbz_0, bad (by omega)]
      · refine Or.inl (head _ ?_)
        rw [q_M_isRight_35]
        refine s_ltf (by omega) (s_lef (by omega) ?_)
        rw [q_M_isRight_49, xbz_0, bad (by omega)]
  · obtain ⟨hp1, hp2⟩ := hp
    have hb := altP_pre hp2 (Nat.le_refl n)
    rw [q_M_isRight_5, e4]
    refine s_g rfl (s_let (by omega) ?_)
    rw [q_M_isRight_73]
    by_cases h1 : sumF f n = 1
    · refine s_eqt (by omega) ?_
      rw [q_M_isRight_83, xbz_1, altB_t ⟨hp2, h1⟩]
    · refine s_eqf (by omega) ?_
      rw [q_M_isRight_82, q_M_isRight_83, xbz_0, altB_f (fun q => h1 q.2)]
theorem r_faultOfSums (hG : XG w) {n : Nat} {d : Nat → Int} (h : rd w 1 n d) : xm M_faultOfSums 0 [.ref 34] w = some (.int (iI (faultC 1 n d)), w) := by
  obtain ⟨hs, hn, e3, e4, hc⟩ := id h
  rw [e_M_faultOfSums, q_M_faultOfSums_0]
  refine x_nest (fun (i : Nat) (_ : Unit) (u : Option Value × Option Value × Option Value) => xr M_faultOfSums 0 2 [some (.ref 34), some (.int (iI i)), u.1, u.2.1, u.2.2] [] (0, 0) w)
    (fun (i j : Nat) (_ : Unit) (u : Option Value × Option Value) => xr M_faultOfSums 0 12 [some (.ref 34), some (.int (iI i)), some (.int (iI j)), u.1, u.2] [] (0, 0) w) (n + 1) (fun _ => n + 1)
    (fun i j _ => ∀ r c, (r < i ∨ r = i ∧ c < j) → ¬ cellBad 1 n d r c) (fun o => o = some (.int (iI (faultC 1 n d)), w))
    (fun i t u hi hp => ⟨(u.2.1, u.2.2), ?_⟩) (fun i j t v hi hj hp => ?_) (fun i t v hi hp => ⟨(some (.int (iI ((n + 1 : Nat) : Int))), v.1, v.2), ?_, fun r c hr hb => ?_⟩) (fun t u hp => ?_) () (none, none, none) (fun r c hr _ => by omega)
  · rw [q_M_faultOfSums_2, e4]
    exact s_g rfl (s_ltf (by omega) rfl)
  · have cv := (hc (i * 11 + j) (by omega)).2
    have chk : ∀ T, (¬ corOk n d i j → some (.int (iI (1000 + 100 * (i : Int) + j)), w) = T) → (corOk n d i j → xr M_faultOfSums 0 190 [some (.ref 34), some (.int (iI i)), some (.int (iI j)), some (.int (iI (d (i * 11 + j)))), some (.int (iI 1))] [] (0, 0) w = T) → xr M_faultOfSums 0 12 [some (.ref 34), some (.int (iI i)), some (.int (iI j)), v.1, v.2] [] (0, 0) w = T := by
      intro T hbad hgood
      rw [q_M_faultOfSums_12, e4]
      refine s_g rfl (s_ltf (by omega) (s_g rfl (s_I (r_d hG h i j (by omega)) ?_)))
      generalize hv : d (i * 11 + j) = x at *
      have b172 : ∀ z, ¬ corOk n d i j → xr M_faultOfSums 0 172 [some (.ref 34), some (.int (iI i)), some (.int (iI j)), some (.int (iI x)), some (.int z)] [.int (iI 0)] (0, 0) w = T := fun z q => by
        rw [q_M_faultOfSums_172]
        refine s_t rfl ?_
        rw [iI_mul, iI_add, iI_add]; exact hbad q
      have b127 : ∀ z, ¬ corOk n d i j → xr M_faultOfSums 0 127 [some (.ref 34), some (.int (iI i)), some (.int (iI j)), some (.int (iI x)), some (.int z)] [.int (iI 0)] (0, 0) w = T := fun z q => by
        rw [q_M_faultOfSums_127]
        refine s_t rfl ?_
        rw [q_M_faultOfSums_171]; exact b172 _ q
      have b82 : ∀ z, ¬ corOk n d i j → xr M_faultOfSums 0 82 [some (.ref 34), some (.int (iI i)), some (.int (iI j)), some (.int (iI x)), some (.int z)] [.int (iI 0)] (0, 0) w = T := fun z q => by
        rw [q_M_faultOfSums_82]
        refine s_t rfl ?_
        rw [q_M_faultOfSums_126]; exact b127 _ q
      have b44 : ∀ u, ¬ corOk n d i j → xr M_faultOfSums 0 44 [some (.ref 34), some (.int (iI i)), some (.int (iI j)), some (.int (iI x)), u] [.int (iI 0)] (0, 0) w = T := fun u q => by
        rw [q_M_faultOfSums_44]
        refine s_t rfl ?_
        rw [q_M_faultOfSums_81]; exact b82 _ q
      have cmp : ∀ {u : Int} {B C : Option XR}, i32 u → (lg_cmp (iI x).toInt64 ((iI u).toInt64 + lI 1) = 0 ↔ x = u + 1) := fun {u} _ _ hu => by
        rw [cmp_0, iI_64 cv, iI_64 hu, lI_add, lI_eq (by omega) (by omega)]
      have p127 : ((i = 0 ∨ j = 0) → x = 0) → (i = n → x = j) → (j = n → x = i) → (i = 0 ∨ x = d ((i - 1) * 11 + j) ∨ x = d ((i - 1) * 11 + j) + 1) → ∀ z, xr M_faultOfSums 0 127 [some (.ref 34), some (.int (iI i)), some (.int (iI j)), some (.int (iI x)), some (.int z)] [.int (iI 1)] (0, 0) w = T := by
        intro k1 k2 k3 k4 z
        have yes : (j = 0 ∨ x = d (i * 11 + (j - 1)) ∨ x = d (i * 11 + (j - 1)) + 1) → xr M_faultOfSums 0 167 [some (.ref 34), some (.int (iI i)), some (.int (iI j)), some (.int (iI x)), some (.int (iI 1))] [] (0, 0) w = T := fun k5 => by
          rw [q_M_faultOfSums_167, q_M_faultOfSums_172]
          refine s_f (by decide) (hgood ?_)
          unfold corOk; rw [hv]; exact ⟨k1, k2, k3, k4, k5⟩
        rw [q_M_faultOfSums_127]
        refine s_f (by decide) ?_
        rw [iI_zero]
        by_cases hj0 : j = 0
        · exact s_eqt (by omega) (yes (Or.inl hj0))
        · have cl := (hc (i * 11 + (j - 1)) (by omega)).2
          refine s_eqf (by omega) ?_
          rw [iI_sub]
          refine s_g rfl (s_I (r_d hG h i (j - 1) (by omega)) ?_)
          by_cases q1 : x = d (i * 11 + (j - 1))
          · exact s_eqt q1 (yes (Or.inr (Or.inl q1)))
          · refine s_eqf (by omega) (s_g rfl (s_I (r_d hG h i (j - 1) (by omega)) ?_))
            by_cases q2 : x = d (i * 11 + (j - 1)) + 1
            · exact s_t ((cmp (B := none) (C := none) cl).mpr q2) (yes (Or.inr (Or.inr q2)))
            · refine s_f (fun z => q2 ((cmp (B := none) (C := none) cl).mp z)) ?_
              rw [q_M_faultOfSums_171]
              exact b172 _ (fun z => by have := z.2.2.2.2; rw [hv] at this; omega)
      have p82 : ((i = 0 ∨ j = 0) → x = 0) → (i = n → x = j) → (j = n → x = i) → ∀ z, xr M_faultOfSums 0 82 [some (.ref 34), some (.int (iI i)), some (.int (iI j)), some (.int (iI x)), some (.int z)] [.int (iI 1)] (0, 0) w = T := by
        intro k1 k2 k3 z
        have yes : (i = 0 ∨ x = d ((i - 1) * 11 + j) ∨ x = d ((i - 1) * 11 + j) + 1) → xr M_faultOfSums 0 122 [some (.ref 34), some (.int (iI i)), some (.int (iI j)), some (.int (iI x)), some (.int (iI 1))] [] (0, 0) w = T := fun k4 => by
          rw [q_M_faultOfSums_122]
          exact p127 k1 k2 k3 k4 _
        rw [q_M_faultOfSums_82]
        refine s_f (by decide) ?_
        rw [iI_zero]
        by_cases hi0 : i = 0
        · exact s_eqt (by omega) (yes (Or.inl hi0))
        · have cl := (hc ((i - 1) * 11 + j) (by omega)).2
          refine s_eqf (by omega) ?_
          rw [iI_sub]
          refine s_g rfl (s_I (r_d hG h (i - 1) j (by omega)) ?_)
          by_cases q1 : x = d ((i - 1) * 11 + j)
          · exact s_eqt q1 (yes (Or.inr (Or.inl q1)))
          · refine s_eqf (by omega) (s_g rfl (s_I (r_d hG h (i - 1) j (by omega)) ?_))
            by_cases q2 : x = d ((i - 1) * 11 + j) + 1
            · exact s_t ((cmp (B := none) (C := none) cl).mpr q2) (yes (Or.inr (Or.inr q2)))
            · refine s_f (fun z => q2 ((cmp (B := none) (C := none) cl).mp z)) ?_
              rw [q_M_faultOfSums_126]
              exact b127 _ (fun z => by have := z.2.2.2.1; rw [hv] at this; omega)
      have p64 : ((i = 0 ∨ j = 0) → x = 0) → (i = n → x = j) → xr M_faultOfSums 0 64 [some (.ref 34), some (.int (iI i)), some (.int (iI j)), some (.int (iI x)), some (.int (iI 1))] [] (0, 0) w = T := by
        intro k1 k2
        rw [q_M_faultOfSums_64, e4]
        refine s_g rfl ?_
        by_cases hq : j < n
        · refine s_ltt (by omega) ?_
          rw [q_M_faultOfSums_77]
          exact p82 k1 k2 (fun q => by omega) _
        · refine s_ltf (by omega) ?_
          by_cases hq2 : x = i
          · refine s_eqt hq2 ?_
            rw [q_M_faultOfSums_77]
            exact p82 k1 k2 (fun q => hq2) _
          · refine s_eqf (by omega) ?_
            rw [q_M_faultOfSums_81]
            exact b82 _ (fun z => by have := z.2.2.1 (by omega); rw [hv] at this; omega)
      have p44 : ((i = 0 ∨ j = 0) → x = 0) → ∀ u, xr M_faultOfSums 0 44 [some (.ref 34), some (.int (iI i)), some (.int (iI j)), some (.int (iI x)), u] [.int (iI 1)] (0, 0) w = T := by
        intro k1 u
        rw [q_M_faultOfSums_44, e4]
        refine s_f (by decide) (s_g rfl ?_)
        by_cases hq : i < n
        · exact s_ltt (by omega) (p64 k1 (fun q => by omega))
        · refine s_ltf (by omega) ?_
          by_cases hq2 : x = j
          · exact s_eqt hq2 (p64 k1 (fun q => hq2))
          · refine s_eqf (by omega) ?_
            rw [q_M_faultOfSums_81]
            exact b82 _ (fun z => by have := z.2.1 (by omega); rw [hv] at this; omega)
      have p35 : (i = 0 ∨ j = 0) → ∀ u, xr M_faultOfSums 0 35 [some (.ref 34), some (.int (iI i)), some (.int (iI j)), some (.int (iI x)), u] [] (0, 0) w = T := by
        intro k0 u
        rw [q_M_faultOfSums_35, iI_zero]
        by_cases hq : x = 0
        · refine s_eqt hq ?_
          rw [q_M_faultOfSums_39]; exact p44 (fun _ => hq) u
        · refine s_eqf (by omega) ?_
          rw [q_M_faultOfSums_43]
          exact b44 u (fun z => by have := z.1 k0; rw [hv] at this; omega)
      rw [iI_zero]
      by_cases hi0 : i = 0
      · exact s_eqt (by omega) (p35 (Or.inl hi0) _)
      · refine s_eqf (by omega) ?_
        by_cases hj0 : j = 0
        · exact s_eqt (by omega) (p35 (Or.inr hj0) _)
        · refine s_eqf (by omega) ?_
          rw [q_M_faultOfSums_39]; exact p44 (fun q => by omega) _
    by_cases hk : corOk n d i j
    · refine Or.inr ⟨(), (some (.int (iI (d (i * 11 + j)))), some (.int (iI 1))), chk _ (fun q => absurd hk q) (fun _ => ?_), fun r c hr => ?_⟩
      · rw [q_M_faultOfSums_190, iI_add]; rfl
      · by_cases q : r = i ∧ c = j
        · rw [q.1, q.2]; exact fun z => z.2 hk
        · exact hp r c (by omega)
    · have hF : isF (cellBad 1 n d) (i, j) := ⟨⟨⟨by omega, by omega⟩, hk⟩, hp⟩
      refine Or.inl (chk _ (fun _ => ?_) (fun q => absurd q hk))
      unfold faultC
      rw [frst_some hF]
  · rw [q_M_faultOfSums_12, e4]
    refine s_g rfl (s_ltt (by omega) ?_)
    rw [q_M_faultOfSums_196, iI_add]; rfl
  · by_cases q : r < i ∨ r = i ∧ c < n + 1
    · exact hp r c q hb
    · have := hb.1; omega
  · rw [q_M_faultOfSums_2, e4]
    refine s_g rfl (s_ltt (by omega) ?_)
    unfold faultC
    rw [q_M_faultOfSums_202, frst_none (fun r c hb => hp r c (by have := hb.1; omega) hb)]
end XMOD
