/-! ===== NUMBERS, 10 (own work): advance and start of the walk ===== -/
theorem bt_cols (n a : Nat) : ∀ k, k ≤ n → ((List.range k).filter (fun c => a / 2 ^ (n - 1 - c) % 2 == 1)).length ≤ k := by
  intro k hk
  have := List.length_filter_le (fun c => a / 2 ^ (n - 1 - c) % 2 == 1) (List.range k)
  rwa [List.length_range] at this
theorem getD_app_l {a b : List Nat} {j : Nat} (h : j < a.length) : (a ++ b).getD j 0 = a.getD j 0 := by rw [List.getD_eq_getElem?_getD, List.getD_eq_getElem?_getD, List.getElem?_append_left h]
theorem getD_app_r {a b : List Nat} {j : Nat} (h : a.length ≤ j) : (a ++ b).getD j 0 = b.getD (j - a.length) 0 := by rw [List.getD_eq_getElem?_getD, List.getD_eq_getElem?_getD, List.getElem?_append_right h]
theorem getD_take {a : List Nat} {i j : Nat} (h : i < j) : (a.take j).getD i 0 = a.getD i 0 := by rw [List.getD_eq_getElem?_getD, List.getD_eq_getElem?_getD, List.getElem?_take, if_pos h]
section XWALK
variable {w : XW} {n : Nat}
theorem k_advance {ls gs cs : List Nat} (h : WK w n ls gs cs) (hok : okL ls gs = true) (hgn : ∀ g ∈ gs, g < n) : ∃ w', xm K_advance 0 [.ref 9] w = some (.int (bI (advL ls gs cs).isSome), w') ∧ xFr wS w w' ∧ xIA w' 10 = xIA w 10 ∧ ∀ r, advL ls gs cs = some r → WK w' n ls gs r := by
  obtain ⟨hG, hn, ⟨hl1, hl2, hl3⟩, h3, h4, h5, hA, hcn⟩ := id h
  rw [e_K_advance, q_K_advance_0, h4, iI_sub]
  have go : ∀ (j : Nat) (t : XW), j ≤ cs.length → xFr wS w t → xIF t 9 3 = iI n → xIF t 9 4 = iI ls.length → xIF t 9 5 = iI (vaL n (cs.take j) : Nat) → xIA t 10 = xIA w 10 → xIA t 11 = xIA w 11 → xIA t 12 = xIA w 12 → (∀ i, j ≤ i → i < cs.length → ¬ cs.getD i 0 < gs.getD i 0) → ∃ w', xr K_advance 0 7 [some (.ref 9), some (.int (iI ((j : Int) - 1)))] [] (0, 0) t = some (.int (bI (advL ls gs cs).isSome), w') ∧ xFr wS w w' ∧ xIA w' 10 = xIA w 10 ∧ ∀ r, advL ls gs cs = some r → WK w' n ls gs r := by
    intro j
    induction j with
    | zero =>
      intro t _ ft t3 t4 t5 t10 t11 t12 hno
      have hnone := adv_none ls gs cs (by omega) (by omega) (fun i hi => hno i (Nat.zero_le _) hi)
      refine ⟨t, ?_, ft, t10, fun r hr => by rw [hnone] at hr; cases hr⟩
      rw [q_K_advance_7, iI_zero]
      refine s_ltt (by omega) ?_
      rw [q_K_advance_66, hnone]; rfl
    | succ j ih =>
      intro t hj ft t3 t4 t5 t10 t11 t12 hno
      have hjl : j < ls.length := by omega
      have ht := ft.G hG
      have cj : cs.getD j 0 < n := hcn _ (getD_mem (by omega))
      have gj : gs.getD j 0 < n := hgn _ (getD_mem (by omega))
      have rc : xIA t 12 j = iI (cs.getD j 0 : Nat) := by rw [t12]; exact (hA j hjl).2.2
      have rg : xIA t 11 j = iI (gs.getD j 0 : Nat) := by rw [t11]; exact (hA j hjl).2.1
      have hv := take_succ_va n cs j (by omega)
      have zj : ((j + 1 : Nat) : Int) - 1 = (j : Int) := by omega
      have f2 : xFr wS w (xpF t 9 5 (iI (vaL n (cs.take j) : Nat))) := ft.tr (fr_pF rfl)
      have nj : (iI (j : Int)).toNatClampNeg = j := iI_natk j (by omega)
      have hin : xin (iI (j : Int)) 11 = true := xin_t (by omega)
      have hsub : ((vaL n (cs.take (j + 1)) : Nat) : Int) - ((2 ^ (n - 1 - cs.getD j 0) : Nat) : Int) = ((vaL n (cs.take j) : Nat) : Int) := by omega
      by_cases hlt : cs.getD j 0 < gs.getD j 0
      · have hsome := adv_some ls gs cs j (by omega) (by omega) (by omega) hlt (fun i hi hil => hno i (by omega) hil)
        have hokd := okL_drop ls gs j hok
        have hdh : ∀ g, (gs.drop j).head? = some g → cs.getD j 0 + 1 ≤ g := fun g hg => by
          rw [List.head?_drop] at hg
          have : gs.getD j 0 = g := by rw [List.getD_eq_getElem?_getD, hg]; rfl
          omega
        have hcl : ∀ c ∈ layL (ls.drop j) (cs.getD j 0 + 1), c < n := fun c hc => by
          obtain ⟨g, hg, hle⟩ := layL_le _ _ _ hokd hdh c hc
          have := hgn g (List.mem_of_mem_drop hg)
          omega
        obtain ⟨w', k1, k2, k3, k4, k5, k6, k7, k8⟩ := k_lay0 hn (x1 := iI (j : Int)) (x2 := iI ((cs.getD j 0 : Nat) : Int) + iI 1) ls.length hl1 (ls.drop j) j (cs.getD j 0 + 1) (xpF t 9 5 (iI (vaL n (cs.take j) : Nat))) (vaL n (cs.take j)) (f2.G hG) (by rw [f_pF, if_pos rfl, if_neg (by decide)]; exact t3) (by rw [f_pF, if_pos rfl, if_neg (by decide)]; exact t4) (by rw [List.length_drop]; omega) (fun q hq => by
          rw [List.length_drop] at hq
          rw [a_pF, t10, getD_drop]; exact (hA (j + q) (by omega)).1) (by rw [f_pF, if_pos rfl, if_pos rfl]) hcl
        refine ⟨w', ?_, f2.tr k2, k6.trans t10, fun r hr => ?_⟩
        · rw [zj, q_K_advance_7, iI_zero]
          refine s_ltf (by omega) ?_
          refine s_g rfl (s_g rfl ?_)
          refine s_o (ht.r (by decide) rfl) (s_g hin ?_)
          refine s_g rfl ?_
          rw [nj, rc]
          refine s_I (k_bit hn t3 (cs.getD j 0) ⟨rfl, cj⟩) ?_
          rw [t5, iI_sub, hsub]
          refine s_g rfl (s_g rfl ?_)
          refine s_o ((f2.G hG).r (by decide) rfl) (s_g hin ?_)
          refine s_g rfl ?_
          refine s_o ((f2.G hG).r (by decide) rfl) (s_g hin ?_)
          rw [a_pF, rg, rc]
          refine s_lef (by omega) ?_
          refine s_g rfl ?_
          refine s_o ((f2.G hG).r (by decide) rfl) (s_g hin ?_)
          refine s_g rfl ?_
          rw [rc]
          have lay : xm K_layFrom 0 [.ref 9, .int (iI (j : Int)), .int (iI ((cs.getD j 0 : Nat) : Int) + iI 1)] (xpF t 9 5 (iI (vaL n (cs.take j) : Nat))) = some (.null, w') := by
            rw [e_K_layFrom, q_K_layFrom_0]
            have k1' := k1
            rw [show (((cs.getD j 0 + 1 : Nat) : Int)) = ((cs.getD j 0 : Nat) : Int) + 1 from rfl, ← iI_add] at k1'
            exact k1'
          refine s_V lay ?_
          rw [xbz_1, hsome]; rfl
        · rw [hsome] at hr
          cases hr
          have tl : (cs.take j).length = j := by rw [List.length_take]; omega
          have ll : (layL (ls.drop j) (cs.getD j 0 + 1)).length = ls.length - j := by rw [layL_len, List.length_drop]
          refine ⟨k2.G (f2.G hG), hn, ⟨hl1, hl2, by rw [List.length_append, tl, ll]; omega⟩, k3, k4, by rw [k5, vaL_app], fun q hq => ⟨by rw [k6, a_pF, t10]; exact (hA q hq).1, by rw [k7, a_pF, t11]; exact (hA q hq).2.1, ?_⟩, fun c hc => ?_⟩
          · rw [k8 q]
            by_cases e : j ≤ q
            · rw [if_pos ⟨e, hq⟩, getD_app_r (by omega), tl]
            · rw [if_neg (by omega), a_pF, t12, getD_app_l (by omega), getD_take (by omega)]; exact (hA q hq).2.2
          · rcases List.mem_append.mp hc with q | q
            · exact hcn c (List.mem_of_mem_take q)
            · exact hcl c q
      · obtain ⟨w', k1, k2, k3⟩ := ih (xpF t 9 5 (iI (vaL n (cs.take j) : Nat))) (by omega) f2 (by rw [f_pF, if_pos rfl, if_neg (by decide)]; exact t3) (by rw [f_pF, if_pos rfl, if_neg (by decide)]; exact t4) (by rw [f_pF, if_pos rfl, if_pos rfl]) t10 t11 t12 (fun i hi hil => by
          by_cases e : i = j
          · subst e; exact hlt
          · exact hno i (by omega) hil)
        refine ⟨w', ?_, k2, k3⟩
        rw [zj, q_K_advance_7, iI_zero]
        refine s_ltf (by omega) ?_
        refine s_g rfl (s_g rfl ?_)
        refine s_o (ht.r (by decide) rfl) (s_g hin ?_)
        refine s_g rfl ?_
        rw [nj, rc]
        refine s_I (k_bit hn t3 (cs.getD j 0) ⟨rfl, cj⟩) ?_
        rw [t5, iI_sub, hsub]
        refine s_g rfl (s_g rfl ?_)
        refine s_o ((f2.G hG).r (by decide) rfl) (s_g hin ?_)
        refine s_g rfl ?_
        refine s_o ((f2.G hG).r (by decide) rfl) (s_g hin ?_)
        rw [a_pF, rg, rc]
        refine s_let (by omega) ?_
        rw [q_K_advance_60, iI_add]; exact k1
  have fin := go cs.length w (Nat.le_refl _) (xFr.rf _ _) h3 h4 (by rw [List.take_length]; exact h5) rfl rfl rfl (fun i h1 h2 => absurd h2 (by omega))
  rw [hl3] at fin
  obtain ⟨w', k1, k2⟩ := fin
  exact ⟨w', s_g rfl k1, k2⟩
theorem filter_range_succ (p : Nat → Bool) (k : Nat) : (List.range (k + 1)).filter p = (List.range k).filter p ++ (if p k = true then [k] else []) := by
  rw [List.range_succ, List.filter_append]
  congr 1
  cases h : p k <;> simp [h]
theorem gr_len (n : Nat) : ∀ ls : List Nat, (grL n ls).length = ls.length := by
  intro ls
  induction ls with
  | nil => rfl
  | cons l ls ih =>
    cases ls with
    | nil => rfl
    | cons l' ls =>
      have e : grL n (l :: l' :: ls) = (match grL n (l' :: ls) with
        | [] => []
        | g :: gs => min l' (g - 1) :: g :: gs) := rfl
      rw [e]
      cases hg : grL n (l' :: ls) with
      | nil => rw [hg] at ih; cases ih
      | cons g gs => rw [hg] at ih; show gs.length + 1 + 1 = ls.length + 1 + 1; have : gs.length + 1 = ls.length + 1 := ih; omega
theorem gr_last (n : Nat) : ∀ (ls : List Nat) (j : Nat), j + 1 = ls.length → (grL n ls).getD j 0 = n - 1 := by
  intro ls
  induction ls with
  | nil => intro j h; cases h
  | cons l ls ih =>
    intro j h
    cases ls with
    | nil =>
      have : j = 0 := by simp at h; omega
      subst this; rfl
    | cons l' ls =>
      have hl := gr_len n (l' :: ls)
      have e : grL n (l :: l' :: ls) = (match grL n (l' :: ls) with
        | [] => []
        | g :: gs => min l' (g - 1) :: g :: gs) := rfl
      cases j with
      | zero => simp at h
      | succ j =>
        have h2 := ih j (Nat.succ.inj h)
        rw [e]
        cases hg : grL n (l' :: ls) with
        | nil => rw [hg] at hl; cases hl
        | cons g gs => rw [hg] at h2; exact h2
theorem gr_step (n : Nat) : ∀ (ls : List Nat) (j : Nat), j + 1 < ls.length → (grL n ls).getD j 0 = min (ls.getD (j + 1) 0) ((grL n ls).getD (j + 1) 0 - 1) := by
  intro ls
  induction ls with
  | nil => intro j h; exact absurd h (Nat.not_lt_zero _)
  | cons l ls ih =>
    intro j h
    cases ls with
    | nil => simp at h
    | cons l' ls =>
      have hl := gr_len n (l' :: ls)
      have e : grL n (l :: l' :: ls) = (match grL n (l' :: ls) with
        | [] => []
        | g :: gs => min l' (g - 1) :: g :: gs) := rfl
      rw [e]
      cases hg : grL n (l' :: ls) with
      | nil => rw [hg] at hl; cases hl
      | cons g gs =>
        cases j with
        | zero => rfl
        | succ j =>
          have h2 := ih j (Nat.lt_of_succ_lt_succ h)
          rw [hg] at h2
          exact h2
theorem k_start (hG : XG w) (hn : 1 ≤ n ∧ n ≤ 10) (h10 : xIA w 10 0 = iI 0) {a : Nat} (ha : a < 2 ^ n - 1) {z za : Int} (hz : z = n ∧ za = a) : ∃ w', xm K_start 0 [.ref 9, .int (iI z), .int (iI za)] w = some (.null, w') ∧ xFr wS w w' ∧ xIA w' 10 0 = iI 0 ∧ WK w' n (lsL n a) (grL n (lsL n a)) (layL (lsL n a) 0) := by
  obtain ⟨rfl, rfl⟩ := hz
  have hck := chk_all hn.1 hn.2 ha
  unfold chkW at hck
  simp only [Bool.and_eq_true, decide_eq_true_eq] at hck
  obtain ⟨⟨⟨hok, -⟩, hlen⟩, hgn0⟩ := hck
  have hgn : ∀ g ∈ grL n (lsL n a), g < n := fun g hg => of_decide_eq_true (List.all_eq_true.mp hgn0 g hg)
  have p10 : (2 : Nat) ^ n ≤ 1024 := Nat.le_trans (Nat.pow_le_pow_right (by decide) hn.2) (by decide)
  have bit : ∀ k, k < n → (iI (a : Int) >>> (iI ((n : Int) - 1 - (k : Int)) &&& 31)) &&& iI 1 = iI ((a / 2 ^ (n - 1 - k) % 2 : Nat) : Int) := fun k hk => by
    rw [show (n : Int) - 1 - (k : Int) = ((n - 1 - k : Nat) : Int) by omega]; exact iI_bit (by omega) (by omega)
  have lsl : (lsL n a).length = (colsL n a).length + 1 := rfl
  -- the greatest ones
  have part2 : ∀ t, xFr wS w t → xIF t 9 3 = iI n → xIF t 9 4 = iI (lsL n a).length → (∀ j, j < (lsL n a).length → xIA t 10 j = iI ((lsL n a).getD j 0 : Nat)) → ∃ w', xr K_start 0 62 [some (.ref 9), some (.int (iI (n : Int))), some (.int (iI (a : Int))), some (.int (iI (n : Int)))] [] (0, 0) t = some (.null, w') ∧ xFr wS w w' ∧ xIA w' 10 0 = iI 0 ∧ WK w' n (lsL n a) (grL n (lsL n a)) (layL (lsL n a) 0) := by
    intro t ft t3 t4 tA
    generalize hN : (lsL n a).length = N at *
    have hN1 : 1 ≤ N := by omega
    have hgl := gr_len n (lsL n a)
    rw [hN] at hgl
    have down : ∀ (j : Nat) (q : XW), j < N → xFr wS w q → xIF q 9 3 = iI n → xIF q 9 4 = iI N → xIA q 10 = xIA t 10 → (∀ i, j ≤ i → i < N → xIA q 11 i = iI ((grL n (lsL n a)).getD i 0 : Nat)) → ∃ w', xr K_start 0 86 [some (.ref 9), some (.int (iI (n : Int))), some (.int (iI (a : Int))), some (.int (iI ((j : Int) - 1)))] [] (0, 0) q = some (.null, w') ∧ xFr wS w w' ∧ xIA w' 10 0 = iI 0 ∧ WK w' n (lsL n a) (grL n (lsL n a)) (layL (lsL n a) 0) := by
      intro j
      induction j with
      | zero =>
        intro q _ fq q3 q4 q10 q11
        have f2 : xFr wS w (xpF q 9 5 (iI 0)) := fq.tr (fr_pF rfl)
        have hdh : ∀ g, (grL n (lsL n a)).head? = some g → 0 ≤ g := fun g _ => Nat.zero_le _
        have hcl : ∀ c ∈ layL (lsL n a) 0, c < n := fun c hc => by
          obtain ⟨g, hg, hle⟩ := layL_le _ _ _ hok hdh c hc
          have := hgn g hg
          omega
        obtain ⟨w', k1, k2, k3, k4, k5, k6, k7, k8⟩ := k_lay0 hn (x1 := iI 0) (x2 := iI 0) N hlen (lsL n a) 0 0 (xpF q 9 5 (iI 0)) 0 (f2.G hG) (by rw [f_pF, if_pos rfl, if_neg (by decide)]; exact q3) (by rw [f_pF, if_pos rfl, if_neg (by decide)]; exact q4) (by omega) (fun i hi => by rw [a_pF, q10, Nat.zero_add]; exact tA i (by omega)) (by rw [f_pF, if_pos rfl, if_pos rfl]; rfl) hcl
        have t0 := tA 0 (by omega)
        refine ⟨w', ?_, f2.tr k2, by rw [k6, a_pF, q10]; exact t0, k2.G (f2.G hG), hn, ⟨by omega, by omega, by rw [layL_len]⟩, k3, by rw [hN]; exact k4, by rw [k5, Nat.zero_add], fun i hi => ⟨by rw [k6, a_pF, q10]; exact tA i (by omega), by rw [k7, a_pF]; exact q11 i (Nat.zero_le _) (by omega), by rw [k8 i, if_pos (by omega), Nat.sub_zero]⟩, hcl⟩
        rw [q_K_start_86, iI_zero]
        refine s_ltt (by omega) ?_
        rw [q_K_start_123]
        refine s_g rfl (s_g rfl ?_)
        have lay : xm K_layFrom 0 [.ref 9, .int (iI 0), .int (iI 0)] (xpF q 9 5 (iI 0)) = some (.null, w') := by
          rw [e_K_layFrom, q_K_layFrom_0]; exact k1
        exact s_V lay rfl
      | succ j ih =>
        intro q hj fq q3 q4 q10 q11
        have hGq := fq.G hG
        have gs1 : (grL n (lsL n a)).getD (j + 1) 0 < n := hgn _ (getD_mem (by omega))
        have step := gr_step n (lsL n a) j (by omega)
        have okd := okL_drop _ _ j hok
        have g1 : 1 ≤ (grL n (lsL n a)).getD (j + 1) 0 := by
          have hd1 : (lsL n a).drop j = (lsL n a).getD j 0 :: (lsL n a).drop (j + 1) := by
            rw [List.getD_eq_getElem?_getD, List.getElem?_eq_getElem (by omega), List.drop_eq_getElem_cons (by omega)]; rfl
          have hd2 : (grL n (lsL n a)).drop j = (grL n (lsL n a)).getD j 0 :: (grL n (lsL n a)).drop (j + 1) := by
            rw [List.getD_eq_getElem?_getD, List.getElem?_eq_getElem (by omega), List.drop_eq_getElem_cons (by omega)]; rfl
          have hd3 : (grL n (lsL n a)).drop (j + 1) = (grL n (lsL n a)).getD (j + 1) 0 :: (grL n (lsL n a)).drop (j + 1 + 1) := by
            rw [List.getD_eq_getElem?_getD, List.getElem?_eq_getElem (by omega), List.drop_eq_getElem_cons (by omega)]; rfl
          rw [hd1, hd2, hd3] at okd
          unfold okL at okd
          simp only [Bool.and_eq_true, decide_eq_true_eq] at okd
          omega
        have l1 : (lsL n a).getD (j + 1) 0 < 2147483647 := by
          have : (lsL n a).getD (j + 1) 0 ∈ lsL n a := getD_mem (by omega)
          rcases List.mem_cons.mp this with y | y
          · omega
          · have := List.mem_range.mp (List.mem_filter.mp y).1
            omega
        have r10 : xIA q 10 (j + 1) = iI ((lsL n a).getD (j + 1) 0 : Nat) := by rw [q10]; exact tA (j + 1) (by omega)
        have r11 : xIA q 11 (j + 1) = iI ((grL n (lsL n a)).getD (j + 1) 0 : Nat) := q11 (j + 1) (Nat.le_refl _) (by omega)
        have mn : (if iI (((grL n (lsL n a)).getD (j + 1) 0 : Nat) : Int) - iI 1 < iI (((lsL n a).getD (j + 1) 0 : Nat) : Int) then iI (((grL n (lsL n a)).getD (j + 1) 0 : Nat) : Int) - iI 1 else iI (((lsL n a).getD (j + 1) 0 : Nat) : Int)) = iI (((grL n (lsL n a)).getD j 0 : Nat) : Int) := by
          rw [iI_sub, step]
          by_cases y : (grL n (lsL n a)).getD (j + 1) 0 - 1 < (lsL n a).getD (j + 1) 0
          · rw [if_pos ((iI_lt (by omega) (by omega)).mpr (by omega)), show min ((lsL n a).getD (j + 1) 0) ((grL n (lsL n a)).getD (j + 1) 0 - 1) = (grL n (lsL n a)).getD (j + 1) 0 - 1 by omega, show (((grL n (lsL n a)).getD (j + 1) 0 - 1 : Nat) : Int) = (((grL n (lsL n a)).getD (j + 1) 0 : Nat) : Int) - 1 by omega]
          · rw [if_neg (fun u => y (by have := (iI_lt (a := (((grL n (lsL n a)).getD (j + 1) 0 : Nat) : Int) - 1) (b := (((lsL n a).getD (j + 1) 0 : Nat) : Int)) (by omega) (by omega)).mp u; omega)), show min ((lsL n a).getD (j + 1) 0) ((grL n (lsL n a)).getD (j + 1) 0 - 1) = (lsL n a).getD (j + 1) 0 by omega]
        obtain ⟨w', k1, k2⟩ := ih (xpI q 11 j (iI (((grL n (lsL n a)).getD j 0 : Nat) : Int))) (by omega) (fq.tr (fr_pI rfl)) q3 q4 (by rw [← q10]; exact funext fun k => (by rw [a_pI, if_neg (by decide)])) (fun i h1 h2 => by
          rw [a_pI, if_pos rfl]
          by_cases e : i = j
          · rw [if_pos e, e]
          · rw [if_neg e]; exact q11 i (by omega) h2)
        refine ⟨w', ?_, k2⟩
        have nj : (iI (((j + 1 : Nat) : Int) - 1 + 1)).toNatClampNeg = j + 1 := by rw [iI_nat (by omega)]; omega
        have nj0 : (iI (((j + 1 : Nat) : Int) - 1)).toNatClampNeg = j := by rw [iI_nat (by omega)]; omega
        rw [q_K_start_86, iI_zero]
        simp only [iI_add]
        refine s_ltf (by omega) ?_
        refine s_g rfl ?_
        refine s_o (hGq.r (by decide) rfl) ?_
        refine s_g rfl ?_
        refine s_o (hGq.r (by decide) rfl) (s_g (xin_t (n := 11) (by omega)) ?_)
        refine s_g rfl ?_
        refine s_o (hGq.r (by decide) rfl) (s_g (xin_t (n := 11) (by omega)) ?_)
        rw [nj, nj0, r10, r11]
        refine s_I (m_min _ _ q) ?_
        rw [mn]
        refine s_g (xin_t (n := 11) (by omega)) ?_
        rw [show (((j + 1 : Nat) : Int) - 1 + -1) = (j : Int) - 1 by omega]
        exact k1
    have hGt := ft.G hG
    have f2 : xFr wS w (xpI t 11 (N - 1) (iI ((n : Int) - 1))) := ft.tr (fr_pI rfl)
    obtain ⟨w', k1, k2⟩ := down (N - 1) (xpI t 11 (N - 1) (iI ((n : Int) - 1))) (by omega) f2 t3 t4 (funext fun k => (by rw [a_pI, if_neg (by decide)])) (fun i h1 h2 => by
      rw [a_pI, if_pos rfl, if_pos (by omega), gr_last n (lsL n a) i (by omega), show ((n - 1 : Nat) : Int) = (n : Int) - 1 by omega])
    refine ⟨w', ?_, k2⟩
    have nj : (iI ((N : Int) - 1)).toNatClampNeg = N - 1 := by rw [iI_nat (by omega)]; omega
    rw [q_K_start_62]
    refine s_g rfl ?_
    refine s_o (hGt.r (by decide) rfl) ?_
    refine s_g rfl (s_g rfl ?_)
    rw [t4, t3, iI_sub, iI_sub, nj]
    refine s_g (xin_t (n := 11) (by omega)) ?_
    refine s_g rfl ?_
    rw [show xIF (xpI t 11 (N - 1) (iI ((n : Int) - 1))) 9 4 = iI (N : Int) from t4, iI_sub, show (N : Int) - 2 = ((N - 1 : Nat) : Int) - 1 by omega]
    exact k1
  -- the least ones
  rw [e_K_start, q_K_start_0]
  have f0 : xFr wS w (xpF (xpF w 9 3 (iI (n : Int))) 9 4 (iI 1)) := (fr_pF rfl).tr (fr_pF rfl)
  have key : ∃ w', xr K_start 0 12 [some (.ref 9), some (.int (iI (n : Int))), some (.int (iI (a : Int))), some (.int (iI ((0 : Nat) : Int)))] [] (0, 0) (xpF (xpF w 9 3 (iI (n : Int))) 9 4 (iI 1)) = some (.null, w') ∧ xFr wS w w' ∧ xIA w' 10 0 = iI 0 ∧ WK w' n (lsL n a) (grL n (lsL n a)) (layL (lsL n a) 0) := by
    refine x_loop (fun (k : Nat) (q : XW) (_ : Unit) => xr K_start 0 12 [some (.ref 9), some (.int (iI (n : Int))), some (.int (iI (a : Int))), some (.int (iI k))] [] (0, 0) q) n
      (fun k q => xFr wS w q ∧ xIF q 9 3 = iI n ∧ xIF q 9 4 = iI ((((List.range k).filter (fun c => a / 2 ^ (n - 1 - c) % 2 == 1)).length + 1 : Nat) : Int) ∧ xIA q 10 0 = iI 0 ∧ ∀ j, j < ((List.range k).filter (fun c => a / 2 ^ (n - 1 - c) % 2 == 1)).length → xIA q 10 (j + 1) = iI (((List.range k).filter (fun c => a / 2 ^ (n - 1 - c) % 2 == 1)).getD j 0 : Nat)) (fun o => ∃ w', o = some (.null, w') ∧ xFr wS w w' ∧ xIA w' 10 0 = iI 0 ∧ WK w' n (lsL n a) (grL n (lsL n a)) (layL (lsL n a) 0))
      (fun k q u hk hp => Or.inr ?_) (fun q u hp => ?_) _ () ⟨f0, by rw [f_pF, if_pos rfl, if_neg (by decide), f_pF, if_pos rfl, if_pos rfl], by rw [f_pF, if_pos rfl, if_pos rfl]; rfl, h10, fun j hj => absurd hj (Nat.not_lt_zero _)⟩
    · obtain ⟨p1, p2, p3, p4, p5⟩ := hp
      have hGq := p1.G hG
      have bl := bt_cols n a k (by omega)
      have fs := filter_range_succ (fun c => a / 2 ^ (n - 1 - c) % 2 == 1) k
      generalize hL : (List.range k).filter (fun c => a / 2 ^ (n - 1 - c) % 2 == 1) = L at *
      by_cases hb : a / 2 ^ (n - 1 - k) % 2 = 1
      · rw [if_pos (by rw [hb]; rfl)] at fs
        refine ⟨xpF (xpI q 10 (L.length + 1) (iI (k : Int))) 9 4 (iI ((L.length + 1 + 1 : Nat) : Int)), (), ?_, (p1.tr (fr_pI rfl)).tr (fr_pF rfl), by rw [f_pF, if_pos rfl, if_neg (by decide)]; exact p2, by rw [f_pF, if_pos rfl, if_pos rfl, fs, List.length_append]; rfl, by rw [a_pF, a_pI, if_pos rfl, if_neg (by omega)]; exact p4, fun j hj => ?_⟩
        · have nl : (iI ((L.length + 1 : Nat) : Int)).toNatClampNeg = L.length + 1 := iI_natk _ (by omega)
          rw [q_K_start_12, p2, p3]
          simp only [iI_sub]
          rw [bit k hk, nl]
          refine s_g rfl (s_lef (by omega) (s_g rfl (s_eqt (by omega) ?_)))
          refine s_g rfl ?_
          refine s_o (hGq.r (by decide) rfl) ?_
          refine s_g rfl ?_
          refine s_g (xin_t (n := 11) (by omega)) ?_
          refine s_g rfl (s_g rfl ?_)
          rw [show xIF (xpI q 10 (L.length + 1) (iI (k : Int))) 9 4 = iI ((L.length + 1 : Nat) : Int) from p3, iI_add, q_K_start_56, iI_add]; rfl
        · rw [fs] at hj ⊢
          rw [List.length_append] at hj
          rw [a_pF, a_pI, if_pos rfl]
          by_cases e : j = L.length
          · rw [if_pos (by omega), getD_app_r (by omega), e, Nat.sub_self]; rfl
          · have hj' : j < L.length := by have : j < L.length + 1 := hj; omega
            rw [if_neg (by omega), getD_app_l hj']; exact p5 j hj'
      · have hb0 : (a / 2 ^ (n - 1 - k) % 2 == 1) = false := by rw [beq_eq_false_iff_ne]; exact hb
        rw [if_neg (by rw [hb0]; decide), List.append_nil] at fs
        refine ⟨q, (), ?_, p1, p2, by rw [fs]; exact p3, p4, fun j hj => by rw [fs] at hj ⊢; exact p5 j hj⟩
        rw [q_K_start_12, p2]
        simp only [iI_sub]
        rw [bit k hk]
        refine s_g rfl (s_lef (by omega) (s_g rfl (s_eqf (by omega) ?_)))
        rw [q_K_start_56, iI_add]; rfl
    · obtain ⟨p1, p2, p3, p4, p5⟩ := hp
      obtain ⟨w', k1, k2⟩ := part2 q p1 p2 p3 (fun j hj => by
        cases j with
        | zero => exact p4
        | succ j => exact p5 j (Nat.lt_of_succ_lt_succ hj))
      refine ⟨w', ?_, k2⟩
      rw [q_K_start_12, p2]
      exact s_g rfl (s_let (by omega) k1)
  obtain ⟨w', k1, k2⟩ := key
  exact ⟨w', s_g rfl (s_g rfl k1), k2⟩
end XWALK
