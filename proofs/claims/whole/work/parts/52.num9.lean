/-! ===== NUMBERS, 9 (own work): the walk goes through its list; RowWalk's methods ===== -/
def hdE (e : Option (List Nat)) (l : List (List Nat)) : Option (List Nat) := match l with
  | [] => e
  | y :: _ => some y
def chnE (f : List Nat → Option (List Nat)) (e : Option (List Nat)) : List (List Nat) → Prop
  | [] => True
  | x :: l => f x = hdE e l ∧ chnE f e l
theorem chnE_app {f : List Nat → Option (List Nat)} {e : Option (List Nat)} {l2 : List (List Nat)} (h2 : chnE f e l2) : ∀ l1 : List (List Nat), chnE f (hdE e l2) l1 → chnE f e (l1 ++ l2) := by
  intro l1
  induction l1 with
  | nil => intro _; exact h2
  | cons x l ih =>
    intro h
    refine ⟨?_, ih h.2⟩
    have h1 := h.1
    cases l with
    | nil => cases l2 with
      | nil => exact h1
      | cons y r => exact h1
    | cons y r => exact h1
theorem chnE_map {f g : List Nat → Option (List Nat)} {e : Option (List Nat)} {c : Nat} (hs : ∀ x y, g x = some y → f (c :: x) = some (c :: y)) (hn : ∀ x, g x = none → f (c :: x) = e) : ∀ l : List (List Nat), chnE g none l → chnE f e (l.map (fun r => c :: r)) := by
  intro l
  induction l with
  | nil => intro _; trivial
  | cons x l ih =>
    intro h
    refine ⟨?_, ih h.2⟩
    have h1 := h.1
    cases l with
    | nil => exact hn x h1
    | cons y r => exact hs x y h1
theorem adv_s {l g c : Nat} {ls gs x y : List Nat} (h : advL ls gs x = some y) : advL (l :: ls) (g :: gs) (c :: x) = some (c :: y) := by
  show (match advL ls gs x with
    | some r => some (c :: r)
    | none => if c < g then some (layL (l :: ls) (c + 1)) else none) = _
  rw [h]
theorem adv_n {l g c : Nat} {ls gs x : List Nat} (h : advL ls gs x = none) : advL (l :: ls) (g :: gs) (c :: x) = if c < g then some (layL (l :: ls) (c + 1)) else none := by
  show (match advL ls gs x with
    | some r => some (c :: r)
    | none => if c < g then some (layL (l :: ls) (c + 1)) else none) = _
  rw [h]
theorem en_chain : ∀ (ls gs : List Nat) (lo : Nat), okL ls gs = true → (∀ g, gs.head? = some g → lo ≤ g) → ∃ r, enL ls gs lo = layL ls lo :: r ∧ chnE (advL ls gs) none (enL ls gs lo) := by
  intro ls
  induction ls with
  | nil =>
    intro gs lo hok _
    refine ⟨[], rfl, ?_, trivial⟩
    cases gs with
    | nil => rfl
    | cons g gs => cases hok
  | cons l ls ih =>
    intro gs lo hok hlo
    cases gs with
    | nil => cases hok
    | cons g gs =>
      unfold okL at hok
      simp only [Bool.and_eq_true, decide_eq_true_eq] at hok
      obtain ⟨⟨hlg, hgg⟩, hok'⟩ := hok
      have hl := hlo g rfl
      have sub : ∀ c, c ≤ g → ∃ r, enL ls gs (c + 1) = layL ls (c + 1) :: r ∧ chnE (advL ls gs) none (enL ls gs (c + 1)) := fun c hc => ih gs (c + 1) hok' (fun g' hg' => by
        cases gs with
        | nil => cases hg'
        | cons g1 gs => cases hg'; have := of_decide_eq_true hgg; omega)
      have blk : ∀ k st, st + k = g + 1 → 1 ≤ k → l ≤ st → ∃ r, (List.range' st k).flatMap (fun c => (enL ls gs (c + 1)).map (fun r => c :: r)) = (st :: layL ls (st + 1)) :: r ∧ chnE (advL (l :: ls) (g :: gs)) none ((List.range' st k).flatMap (fun c => (enL ls gs (c + 1)).map (fun r => c :: r))) := by
        intro k
        induction k with
        | zero => intro st _ h; exact absurd h (by decide)
        | succ k ihk =>
          intro st hst _ hls
          obtain ⟨r, hr, hc⟩ := sub st (by omega)
          have e : (List.range' st (k + 1)).flatMap (fun c => (enL ls gs (c + 1)).map (fun r => c :: r)) = (enL ls gs (st + 1)).map (fun r => st :: r) ++ (List.range' (st + 1) k).flatMap (fun c => (enL ls gs (c + 1)).map (fun r => c :: r)) := by
            rw [List.range'_succ, List.flatMap_cons]
          rw [e]
          refine ⟨r.map (fun r => st :: r) ++ (List.range' (st + 1) k).flatMap (fun c => (enL ls gs (c + 1)).map (fun r => c :: r)), by rw [hr]; rfl, ?_⟩
          by_cases hk : k = 0
          · subst hk
            rw [show (List.range' (st + 1) 0).flatMap (fun c => (enL ls gs (c + 1)).map (fun r => c :: r)) = [] from rfl]
            refine chnE_app (l2 := []) trivial _ ?_
            exact chnE_map (g := advL ls gs) (fun x y h => adv_s h) (fun x h => by rw [adv_n h, if_neg (by omega)]; rfl) _ hc
          · obtain ⟨r2, hr2, hc2⟩ := ihk (st + 1) (by omega) (by omega) (by omega)
            refine chnE_app hc2 _ ?_
            rw [hr2]
            refine chnE_map (g := advL ls gs) (fun x y h => adv_s h) (fun x h => ?_) _ hc
            rw [adv_n h, if_pos (by omega)]
            show some (max l (st + 1) :: layL ls (max l (st + 1) + 1)) = _
            rw [show max l (st + 1) = st + 1 by omega]; rfl
      obtain ⟨r, h1, h2⟩ := blk (g + 1 - max l lo) (max l lo) (by omega) (by omega) (by omega)
      exact ⟨r, h1, h2⟩
theorem layL_len (ls : List Nat) : ∀ lo, (layL ls lo).length = ls.length := by
  induction ls with
  | nil => intro lo; rfl
  | cons l ls ih => intro lo; show (layL ls (max l lo + 1)).length + 1 = ls.length + 1; rw [ih]
theorem layL_le : ∀ (ls gs : List Nat) (lo : Nat), okL ls gs = true → (∀ g, gs.head? = some g → lo ≤ g) → ∀ c ∈ layL ls lo, ∃ g ∈ gs, c ≤ g := by
  intro ls
  induction ls with
  | nil => intro gs lo _ _ c hc; cases hc
  | cons l ls ih =>
    intro gs lo hok hlo c hc
    cases gs with
    | nil => cases hok
    | cons g gs =>
      unfold okL at hok
      simp only [Bool.and_eq_true, decide_eq_true_eq] at hok
      obtain ⟨⟨hlg, hgg⟩, hok'⟩ := hok
      have hl := hlo g rfl
      rcases List.mem_cons.mp hc with q | q
      · exact ⟨g, List.mem_cons_self, by omega⟩
      · obtain ⟨g', h1, h2⟩ := ih gs (max l lo + 1) hok' (fun g' hg' => by
          cases gs with
          | nil => cases hg'
          | cons g1 gs => cases hg'; have := of_decide_eq_true hgg; omega) c q
        exact ⟨g', List.mem_cons_of_mem _ h1, h2⟩
theorem adv_some : ∀ (ls gs cs : List Nat) (j : Nat), ls.length = cs.length → gs.length = cs.length → j < cs.length → cs.getD j 0 < gs.getD j 0 → (∀ i, j < i → i < cs.length → ¬ cs.getD i 0 < gs.getD i 0) → advL ls gs cs = some (cs.take j ++ layL (ls.drop j) (cs.getD j 0 + 1)) := by
  intro ls
  induction ls with
  | nil => intro gs cs j h1 h2 h3; rw [← h1] at h3; exact absurd h3 (Nat.not_lt_zero _)
  | cons l ls ih =>
    intro gs cs j h1 h2 h3 h4 h5
    cases cs with
    | nil => cases h1
    | cons c cs =>
      cases gs with
      | nil => cases h2
      | cons g gs =>
        cases j with
        | zero =>
          have none : ∀ (ls gs cs : List Nat), ls.length = cs.length → gs.length = cs.length → (∀ i, i < cs.length → ¬ cs.getD i 0 < gs.getD i 0) → advL ls gs cs = Option.none := by
            intro ls
            induction ls with
            | nil => intro gs cs _ _ _; unfold advL; rfl
            | cons l ls ih =>
              intro gs cs k1 k2 k3
              cases cs with
              | nil => cases k1
              | cons c cs =>
                cases gs with
                | nil => cases k2
                | cons g gs =>
                  rw [adv_n (ih gs cs (Nat.succ.inj k1) (Nat.succ.inj k2) (fun i hi => k3 (i + 1) (Nat.succ_lt_succ hi))), if_neg (show ¬ c < g from k3 0 (Nat.zero_lt_succ _))]
          rw [adv_n (none ls gs cs (Nat.succ.inj h1) (Nat.succ.inj h2) (fun i hi => h5 (i + 1) (Nat.zero_lt_succ _) (Nat.succ_lt_succ hi))), if_pos (show c < g from h4)]; rfl
        | succ j =>
          exact adv_s (ih gs cs j (Nat.succ.inj h1) (Nat.succ.inj h2) (Nat.lt_of_succ_lt_succ h3) h4 (fun i hi hl => h5 (i + 1) (Nat.succ_lt_succ hi) (Nat.succ_lt_succ hl)))
theorem adv_none : ∀ (ls gs cs : List Nat), ls.length = cs.length → gs.length = cs.length → (∀ i, i < cs.length → ¬ cs.getD i 0 < gs.getD i 0) → advL ls gs cs = Option.none := by
  intro ls
  induction ls with
  | nil => intro gs cs _ _ _; unfold advL; rfl
  | cons l ls ih =>
    intro gs cs k1 k2 k3
    cases cs with
    | nil => cases k1
    | cons c cs =>
      cases gs with
      | nil => cases k2
      | cons g gs =>
        rw [adv_n (ih gs cs (Nat.succ.inj k1) (Nat.succ.inj k2) (fun i hi => k3 (i + 1) (Nat.succ_lt_succ hi))), if_neg (show ¬ c < g from k3 0 (Nat.zero_lt_succ _))]
theorem okL_drop : ∀ (ls gs : List Nat) (j : Nat), okL ls gs = true → okL (ls.drop j) (gs.drop j) = true := by
  intro ls
  induction ls with
  | nil =>
    intro gs j h
    cases gs with
    | nil => cases j <;> rfl
    | cons g gs => cases h
  | cons l ls ih =>
    intro gs j h
    cases gs with
    | nil => cases h
    | cons g gs =>
      cases j with
      | zero => exact h
      | succ j =>
        unfold okL at h
        simp only [Bool.and_eq_true, decide_eq_true_eq] at h
        exact ih gs j h.2
theorem okL_len : ∀ (ls gs : List Nat), okL ls gs = true → gs.length = ls.length := by
  intro ls
  induction ls with
  | nil =>
    intro gs h
    cases gs with
    | nil => rfl
    | cons g gs => cases h
  | cons l ls ih =>
    intro gs h
    cases gs with
    | nil => cases h
    | cons g gs =>
      unfold okL at h
      simp only [Bool.and_eq_true, decide_eq_true_eq] at h
      show gs.length + 1 = ls.length + 1
      rw [ih gs h.2]
theorem vaL_app (n : Nat) (a b : List Nat) : vaL n (a ++ b) = vaL n a + vaL n b := by
  induction a with
  | nil => show vaL n b = 0 + vaL n b; rw [Nat.zero_add]
  | cons c a ih => show 2 ^ (n - 1 - c) + vaL n (a ++ b) = 2 ^ (n - 1 - c) + vaL n a + vaL n b; rw [ih, Nat.add_assoc]
theorem take_succ_va (n : Nat) : ∀ (cs : List Nat) (j : Nat), j < cs.length → vaL n (cs.take (j + 1)) = vaL n (cs.take j) + 2 ^ (n - 1 - cs.getD j 0) := by
  intro cs
  induction cs with
  | nil => intro j h; exact absurd h (Nat.not_lt_zero _)
  | cons c cs ih =>
    intro j h
    cases j with
    | zero => show 2 ^ (n - 1 - c) + 0 = 0 + 2 ^ (n - 1 - c); omega
    | succ j =>
      show 2 ^ (n - 1 - c) + vaL n (cs.take (j + 1)) = 2 ^ (n - 1 - c) + vaL n (cs.take j) + 2 ^ (n - 1 - cs.getD j 0)
      rw [ih j (Nat.lt_of_succ_lt_succ h)]; omega
theorem getD_drop (l : List Nat) (j i : Nat) : (l.drop j).getD i 0 = l.getD (j + i) 0 := by rw [List.getD_eq_getElem?_getD, List.getD_eq_getElem?_getD, List.getElem?_drop]
theorem getD_mem {l : List Nat} {i : Nat} (h : i < l.length) : l.getD i 0 ∈ l := by
  rw [List.getD_eq_getElem?_getD, List.getElem?_eq_getElem h]
  exact List.getElem_mem h
/-- the walk's cells -/
def wS (q : Nat) : Bool := decide (9 ≤ q) && decide (q ≤ 12)
def WK (w : XW) (n : Nat) (ls gs cs : List Nat) : Prop := XG w ∧ (1 ≤ n ∧ n ≤ 10) ∧ (ls.length ≤ 11 ∧ gs.length = ls.length ∧ cs.length = ls.length) ∧ xIF w 9 3 = iI n ∧ xIF w 9 4 = iI ls.length ∧ xIF w 9 5 = iI (vaL n cs : Nat) ∧ (∀ j, j < ls.length → xIA w 10 j = iI (ls.getD j 0 : Nat) ∧ xIA w 11 j = iI (gs.getD j 0 : Nat) ∧ xIA w 12 j = iI (cs.getD j 0 : Nat)) ∧ (∀ c ∈ cs, c < n)
section XWALK
variable {w : XW} {n : Nat}
theorem k_bit (hn : 1 ≤ n ∧ n ≤ 10) (hf : xIF w 9 3 = iI n) {z : Int} (c : Nat) (hc : z = c ∧ c < n) : xm K_bitOf 0 [.ref 9, .int (iI z)] w = some (.int (iI ((2 ^ (n - 1 - c) : Nat) : Int)), w) := by
  obtain ⟨rfl, hc⟩ := hc
  rw [e_K_bitOf, q_K_bitOf_0, hf, iI_sub, iI_sub, show (n : Int) - 1 - (c : Int) = ((n - 1 - c : Nat) : Int) by omega, iI_pow (by omega)]
  exact s_g rfl rfl
theorem k_lay0 (hn : 1 ≤ n ∧ n ≤ 10) {x1 x2 : Int32} (N : Nat) (hN : N ≤ 11) : ∀ (rest : List Nat) (i lo : Nat) (w : XW) (b0 : Nat), XG w → xIF w 9 3 = iI n → xIF w 9 4 = iI N → i + rest.length = N → (∀ j, j < rest.length → xIA w 10 (i + j) = iI (rest.getD j 0 : Nat)) → xIF w 9 5 = iI b0 → (∀ c ∈ layL rest lo, c < n) → ∃ w', xr K_layFrom 0 5 [some (.ref 9), some (.int x1), some (.int x2), some (.int (iI lo)), some (.int (iI i))] [] (0, 0) w = some (.null, w') ∧ xFr wS w w' ∧ xIF w' 9 3 = iI n ∧ xIF w' 9 4 = iI N ∧ xIF w' 9 5 = iI ((b0 + vaL n (layL rest lo) : Nat) : Int) ∧ xIA w' 10 = xIA w 10 ∧ xIA w' 11 = xIA w 11 ∧ ∀ k, xIA w' 12 k = if i ≤ k ∧ k < N then iI ((layL rest lo).getD (k - i) 0 : Nat) else xIA w 12 k := by
  intro rest
  induction rest with
  | nil =>
    intro i lo w b0 hG h3 h4 hi hl h5 hc
    have hi' : i = N := hi
    refine ⟨w, ?_, xFr.rf _ _, h3, h4, h5, rfl, rfl, fun k => by rw [if_neg (by omega)]⟩
    rw [q_K_layFrom_5, h4]
    refine s_g rfl (s_let (by omega) ?_)
    rw [q_K_layFrom_68]
  | cons l rest ih =>
    intro i lo w b0 hG h3 h4 hi hl h5 hc
    have hi' : i + (rest.length + 1) = N := hi
    have l0 := hl 0 (Nat.zero_lt_succ _)
    have hl0 : xIA w 10 i = iI (l : Int) := l0
    have cn : max l lo < n := hc _ List.mem_cons_self
    have mx : (if iI (l : Int) < iI (lo : Int) then iI (lo : Int) else iI (l : Int)) = iI ((max l lo : Nat) : Int) := by
      by_cases q : l < lo
      · rw [if_pos ((iI_lt (by omega) (by omega)).mpr (by omega)), show max l lo = lo by omega]
      · rw [if_neg (fun z => by have := (iI_lt (a := (l : Int)) (b := (lo : Int)) (by omega) (by omega)).mp z; omega), show max l lo = l by omega]
    have f1 : xFr wS w (xpI w 12 i (iI ((max l lo : Nat) : Int))) := fr_pI rfl
    have f2 : xFr wS w (xpF (xpI w 12 i (iI ((max l lo : Nat) : Int))) 9 5 (iI ((b0 + 2 ^ (n - 1 - max l lo) : Nat) : Int))) := f1.tr (fr_pF rfl)
    obtain ⟨w', k1, k2, k3, k4, k5, k6, k7, k8⟩ := ih (i + 1) (max l lo + 1) (xpF (xpI w 12 i (iI ((max l lo : Nat) : Int))) 9 5 (iI ((b0 + 2 ^ (n - 1 - max l lo) : Nat) : Int))) (b0 + 2 ^ (n - 1 - max l lo)) (f2.G hG) (by rw [f_pF, if_pos rfl, if_neg (by decide)]; exact h3) (by rw [f_pF, if_pos rfl, if_neg (by decide)]; exact h4) (by omega) (fun j hj => by
      rw [a_pF, a_pI, if_neg (by decide), show i + 1 + j = i + (j + 1) by omega]
      exact hl (j + 1) (Nat.succ_lt_succ hj)) (by rw [f_pF, if_pos rfl, if_pos rfl]) (fun c hcc => hc c (List.mem_cons_of_mem _ hcc))
    refine ⟨w', ?_, f2.tr k2, k3, k4, ?_, k6.trans ?_, k7.trans ?_, fun k => ?_⟩
    · have rd12 : xIA (xpI w 12 i (iI ((max l lo : Nat) : Int))) 12 i = iI ((max l lo : Nat) : Int) := by rw [a_pI, if_pos rfl, if_pos rfl]
      rw [q_K_layFrom_5, h4, iI_natk i (by omega)]
      refine s_g rfl (s_lef (by omega) (s_g rfl (s_o (hG.r (by decide) rfl) (s_g rfl (s_o (hG.r (by decide) rfl) (s_g (xin_t (n := 11) (by omega)) ?_))))))
      rw [hl0]
      refine s_I (m_max _ _ w) ?_
      rw [mx]
      refine s_g (xin_t (n := 11) (by omega)) (s_g rfl (s_g rfl (s_o ((f1.G hG).r (by decide) rfl) (s_g (xin_t (n := 11) (by omega)) (s_g rfl ?_)))))
      rw [rd12]
      refine s_I (k_bit hn (w := xpI w 12 i (iI ((max l lo : Nat) : Int))) h3 (max l lo) ⟨rfl, cn⟩) ?_
      rw [show xIF (xpI w 12 i (iI ((max l lo : Nat) : Int))) 9 5 = iI (b0 : Int) from h5, iI_add, ← Int.natCast_add]
      refine s_g rfl (s_g rfl (s_o ((f2.G hG).r (by decide) rfl) (s_g (xin_t (n := 11) (by omega)) ?_)))
      rw [a_pF, rd12, iI_add, iI_add]
      exact k1
    · rw [k5]
      show iI ((b0 + 2 ^ (n - 1 - max l lo) + vaL n (layL rest (max l lo + 1)) : Nat) : Int) = iI ((b0 + (2 ^ (n - 1 - max l lo) + vaL n (layL rest (max l lo + 1))) : Nat) : Int)
      rw [Nat.add_assoc]
    · rw [a_pF]; exact funext fun k => (by rw [a_pI, if_neg (by decide)])
    · rw [a_pF]; exact funext fun k => (by rw [a_pI, if_neg (by decide)])
    · rw [k8 k, a_pF, a_pI, if_pos rfl]
      by_cases e : k = i
      · subst e
        rw [if_neg (by omega), if_pos rfl, if_pos (by omega), Nat.sub_self]; rfl
      · rw [if_neg e]
        by_cases e2 : i + 1 ≤ k ∧ k < N
        · rw [if_pos e2, if_pos (by omega), show k - i = (k - (i + 1)) + 1 by omega]; rfl
        · rw [if_neg e2, if_neg (by omega)]
end XWALK
