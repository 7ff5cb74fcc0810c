/-! ===== a method's entry; contracts out of runs of the interpreter ===== -/
def xfl (As : List Value) : XL := As.flatMap (fun v => match v with
    | .long x => [some (.long x), some (.retAddr 7)]
    | v => [some v])
theorem xfl_at (ad sad : Nat → Nat) (w : XW) : ∀ (As : List Value) (o j : Nat) (v : Value), (∀ u ∈ As, xvs w u) → (xfl As)[j]? = some (some v) → v = .retAddr 7 ∨ ((o + j, xv ad sad v) ∈ lv_args o (As.map (xv ad sad)) ∧ v ∈ As) := by
  intro As
  induction As with
  | nil => intro o j v _ h; simp [xfl] at h
  | cons a As ih =>
    intro o j v hs h
    have one : ∀ (b : Value), a = b → b.category = 1 → xfl (a :: As) = some b :: xfl As → v = .retAddr 7 ∨ ((o + j, xv ad sad v) ∈ lv_args o ((a :: As).map (xv ad sad)) ∧ v ∈ a :: As) := by
      intro b hb hcat he
      subst hb
      rw [he] at h
      have hl : lv_args o ((a :: As).map (xv ad sad)) = (o, xv ad sad a) :: lv_args (o + 1) (As.map (xv ad sad)) := by
        show (o, xv ad sad a) :: lv_args (if (xv ad sad a).category = 2 then o + 2 else o + 1) (As.map (xv ad sad)) = _
        rw [xv_cat, hcat]
        rfl
      rw [hl]
      cases j with
      | zero =>
        have : v = a := (Option.some.inj (Option.some.inj h)).symm
        subst this
        exact Or.inr ⟨List.mem_cons_self, List.mem_cons_self⟩
      | succ j =>
        rcases ih (o + 1) j v (xs_tl hs) h with q | q
        · exact Or.inl q
        · refine Or.inr ⟨List.mem_cons_of_mem _ ?_, List.mem_cons_of_mem _ q.2⟩
          have e : o + (j + 1) = o + 1 + j := by omega
          rw [e]
          exact q.1
    cases a with
    | long z =>
      have he : xfl (.long z :: As) = some (.long z) :: some (.retAddr 7) :: xfl As := rfl
      rw [he] at h
      have hl : lv_args o ((Value.long z :: As).map (xv ad sad)) = (o, .long z) :: lv_args (o + 2) (As.map (xv ad sad)) := rfl
      rw [hl]
      match j, h with
      | 0, h =>
        have : v = .long z := (Option.some.inj (Option.some.inj h)).symm
        subst this
        exact Or.inr ⟨List.mem_cons_self, List.mem_cons_self⟩
      | 1, h => exact Or.inl (Option.some.inj (Option.some.inj h)).symm
      | j + 2, h =>
        rcases ih (o + 2) j v (xs_tl hs) h with q | q
        · exact Or.inl q
        · refine Or.inr ⟨List.mem_cons_of_mem _ ?_, List.mem_cons_of_mem _ q.2⟩
          have e : o + (j + 2) = o + 2 + j := by omega
          rw [e]
          exact q.1
    | int z => exact one _ rfl rfl rfl
    | null => exact one _ rfl rfl rfl
    | ref z => exact one _ rfl rfl rfl
    | retAddr z => exact one _ rfl rfl rfl
    | float z => exact one _ rfl rfl rfl
    | double z => exact absurd (xs_hd hs) (fun q => q)
theorem lg_len : ∀ (vs : List Value), (lg_sl vs).length = (vs.map fun v => v.category).sum := by
  intro vs
  induction vs with
  | nil => rfl
  | cons v vs ih =>
    have : lg_sl (v :: vs) = (if v.category = 2 then [.val v, .second] else [.val v]) ++ lg_sl vs := rfl
    rw [this, List.length_append, ih, List.map_cons, List.sum_cons]
    rcases lv_cat v with q | q
    · rw [q]; simp
    · rw [q]; simp
theorem x_entry {ad sad : Nat → Nat} {w : XW} {As : List Value} {id : Nat} (hs : ∀ v ∈ As, xvs w v) (hc : xcat As ≤ xmaxL id) :
    xLH ad sad w (lg_sl (As.map (xv ad sad)) ++ List.replicate (xmaxL id - (lg_sl (As.map (xv ad sad))).length) Slot.unset).toArray (xmaxL id) (xentry id As) := by
  have h := lv_entry (As.map (xv ad sad)) (n := xmaxL id) (by rw [lg_len, xv_cats]; exact hc)
  refine ⟨h.1, h.2.1, fun j v hj => ?_⟩
  have hj' : (xfl As ++ List.replicate (xmaxL id - (xfl As).length) none)[j]? = some (some v) := hj
  have hj2 : (xfl As)[j]? = some (some v) := by
    rcases Nat.lt_or_ge j (xfl As).length with q | q
    · rwa [List.getElem?_append_left q] at hj'
    · rw [List.getElem?_append_right q] at hj'
      have := List.eq_of_mem_replicate (List.mem_of_getElem? hj')
      cases this
  rcases xfl_at ad sad w As 0 j v hs hj2 with q | ⟨q, hm⟩
  · subst q
    exact fun z => absurd z (by decide)
  · have h1 := h.2.2 _ q
    rw [Nat.zero_add] at h1
    have hv := hs v hm
    cases v with
    | int z => exact h1
    | long z => exact fun _ => h1
    | null => exact h1
    | ref a => exact ⟨h1, hv⟩
    | retAddr t => exact fun _ => h1
    | float z => trivial
    | double z => trivial
theorem xplain {id : Nat} (h : id < xLaw) : plainFor (xy id) = true := by
  have h0 := xmet_ok h
  simp only [xmetok, Bool.and_eq_true] at h0
  exact h0.1.1.1.1.2
/-- a run of the interpreter is a contract -/
theorem x_sound (l : Launch) (D : va_G) : ∀ (r id lv : Nat), xrnk id lv < r → id < xLaw → ∀ (f : Nat) (As : List Value) (w : XW) (x : XR), xVR w → (∀ v ∈ As, xvs w v) → xcat As ≤ xmaxL id → xrf f id lv 0 (xentry id As) [] (xbud id) w = some x → xMet l D id lv x As w := by
  intro r
  induction r with
  | zero => intro id lv h; exact absurd h (Nat.not_lt_zero _)
  | succ r ih =>
    intro id lv hr hid f As w x hV hAs hcat hrun sad ad cA sz
    refine va_MetF (cc := xby id) (maxL := xmaxL id) (ret := xret id) (xplain hid) rfl ?_
    intro p e s m args below meth c s₁ B hml hv
    obtain ⟨rfl, hsz, hP, hK, hAr, hD0, hSt, hN⟩ := hv
    subst hsz
    have hD := hD0.self (sz := s.heap.size)
    have cx : xCx p (xrm id lv) s m (As.map (xv ad sad)).toArray meth c D sad (xSc w) (va_A (xws ad cA w) s.heap.size) id lv (xbud id).1 (xbud id).2 := by
      refine ⟨B.exec, B.bytes, B.returns, hml, ?_, fun z hz => atoms_spec (ws := xwd id) B.pre z (List.mem_cons_of_mem _ hz), B.notSynchronized, hK, fun hk => ?_, hSt, fun q hq => Or.inr hq, Nat.le_refl _, Nat.le_refl _, rfl, rfl, hN⟩
      · rw [← xcls_d hid]
        exact findClass_of_methodNamed B.named
      · exact ((name_of_methodNamed B.named B.method).1).trans (xk2 hid hk).2.1
    have hI : xI D ad cA (xn w) (xSc w) (va_A (xws ad cA w) s.heap.size) s ad cA w s.heap [] := ⟨hP, hD, hAr, hV, va_S.rf, rfl, Nat.le_refl _, fun _ _ => ⟨rfl, rfl⟩⟩
    rw [lg_entry_eq]
    exact x_body cx (xchk_ok hid) (fun f d lw As u y hd hrk hVu hAu hcu hC => ih d lw (by omega) hd f As u y hVu hAu hcu hC) (fun J C i pc k h0 h1 h2 => x_ret cx hid J C i pc k h0 h1 h2) f 0 ad cA w s.heap [] 0 0 _ (xentry id As) [] (xbud id) hI (x_entry hAs hcat) (fun _ z => by cases z) (Nat.zero_add _) (Nat.zero_add _) hrun
