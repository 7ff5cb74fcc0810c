/-! ===== the picture and the heap ===== -/
def xv (ad sad : Nat → Nat) (v : Value) : Value := match v with
  | .ref a => .ref (ad a)
  | .retAddr t => .ref (sad t)
  | .int x => .int x
  | .long x => .long x
  | .null => .null
  | .float x => .float x
  | .double x => .double x
theorem xv_cat (ad sad : Nat → Nat) (v : Value) : (xv ad sad v).category = v.category := by cases v <;> rfl
theorem xv_cats (ad sad : Nat → Nat) (st : List Value) : ((st.map (xv ad sad)).map fun v => v.category).sum = xcat st := by
  unfold xcat
  rw [List.map_map]
  congr 1
  exact List.map_congr_left (fun v _ => xv_cat ad sad v)
def xtyp (t : Nat) : FieldType := match t with
  | 2 => .boolean
  | 3 => .long
  | 4 => .object "SignBench$Table"
  | _ => .int
def xfv (ad : Nat → Nat) (w : XW) (a ci f : Nat) : Value := match xfint ci f with
  | true => .int (xIF w a f)
  | false => va_rf ((xRF w a f).map ad)
def xfs (ad : Nat → Nat) (w : XW) (a ci : Nat) : List Value := (List.range (xNf ci)).map (fun f => xfv ad w a ci f)
def xcell (ad : Nat → Nat) (cA : Nat → ClassId) (w : XW) (a : Nat) : va_E := match xak a with
  | 0 => .inr (xcls a, xfs ad w a (xcls a))
  | 3 => .inl (cA a, xln w a, .inr (.inl (xLA w a)))
  | 4 => .inl (cA a, xln w a, .inr (.inr (.inr (.inr (fun j => (xRA w a j).map ad)))))
  | _ => .inl (cA a, xln w a, .inl (xIA w a))
def xws (ad : Nat → Nat) (cA : Nat → ClassId) (w : XW) : va_W := (List.range (xn w)).map (fun a => (ad a, xcell ad cA w a))
theorem xws_at {ad : Nat → Nat} {cA : Nat → ClassId} {w : XW} {a : Nat} (h : a < xn w) : (xws ad cA w)[a]? = some (ad a, xcell ad cA w a) := by
  unfold xws
  rw [List.getElem?_map, List.getElem?_range h]
  rfl
theorem xws_len (ad : Nat → Nat) (cA : Nat → ClassId) (w : XW) : (xws ad cA w).length = xn w := by simp [xws]
theorem xws_set {ad : Nat → Nat} {cA : Nat → ClassId} {w w' : XW} {a : Nat} {E : va_E} (hn : xn w' = xn w) (ho : ∀ q, q ≠ a → xcell ad cA w' q = xcell ad cA w q) (hE : xcell ad cA w' a = E) : (xws ad cA w).set a (ad a, E) = xws ad cA w' := by
  apply List.ext_getElem?
  intro k
  rw [List.getElem?_set]
  by_cases hk : k < xn w
  · rw [xws_at (w := w') (by rw [hn]; exact hk)]
    by_cases e : a = k
    · subst e
      rw [if_pos rfl, if_pos (by rw [xws_len]; exact hk), hE]
    · rw [if_neg e, xws_at hk, ho k (fun q => e q.symm)]
  · have h1 : (xws ad cA w')[k]? = none := List.getElem?_eq_none (by rw [xws_len, hn]; omega)
    have h2 : (xws ad cA w)[k]? = none := List.getElem?_eq_none (by rw [xws_len]; omega)
    rw [h1]
    by_cases e : a = k
    · subst e
      rw [if_pos rfl, if_neg (by rw [xws_len]; exact hk)]
    · rw [if_neg e, h2]
theorem xws_push {ad ad' : Nat → Nat} {cA cA' : Nat → ClassId} {w w' : XW} (hn : xn w' = xn w + 1) (ho : ∀ a, a < xn w → ad' a = ad a ∧ xcell ad' cA' w' a = xcell ad cA w a) {q : Nat} {E : va_E} (hq : ad' (xn w) = q) (hE : xcell ad' cA' w' (xn w) = E) : xws ad cA w ++ [(q, E)] = xws ad' cA' w' := by
  unfold xws
  rw [hn, List.range_succ, List.map_append, List.map_singleton, hq, hE]
  congr 1
  apply List.map_congr_left
  intro a ha
  have h := ho a (List.mem_range.mp ha)
  rw [h.1, h.2]
def xAr (cA : Nat → ClassId) (w : XW) (U : State) : Prop := ∀ a, a < xn w → xak a ≠ 0 → ArrOfT U (cA a) (xtyp (xak a)) ∧ va_RA U (cA a) (xtyp (xak a))
def xVR (w : XW) : Prop := (∀ a f q, xRF w a f = some q → q < xn w) ∧ ∀ a j q, xRA w a j = some q → q < xn w
def xvs (w : XW) (v : Value) : Prop := match v with
  | .ref a => a < xn w
  | .retAddr t => t < 5
  | .double _ => False
  | _ => True
theorem xs_cons {w : XW} {v : Value} {st : List Value} (h : xvs w v) (hs : ∀ u ∈ st, xvs w u) : ∀ u ∈ v :: st, xvs w u := fun u hu => (List.mem_cons.mp hu).elim (fun e => e ▸ h) (hs u)
theorem xs_tl {w : XW} {v : Value} {st : List Value} (hs : ∀ u ∈ v :: st, xvs w u) : ∀ u ∈ st, xvs w u := fun u hu => hs u (List.mem_cons_of_mem _ hu)
theorem xs_hd {w : XW} {v : Value} {st : List Value} (hs : ∀ u ∈ v :: st, xvs w u) : xvs w v := hs v List.mem_cons_self
def xLv (ad sad : Nat → Nat) (w : XW) (ls : Array Slot) (L : XL) (j : Nat) (v : Value) : Prop := match v with
  | .int x => ls[j]? = some (.val (.int x))
  | .long x => L[j + 1]? = some (some (.retAddr 7)) → ls[j]? = some (.val (.long x))
  | .null => ls[j]? = some (.val .null)
  | .ref a => ls[j]? = some (.val (.ref (ad a))) ∧ a < xn w
  | .retAddr t => t < 5 → ls[j]? = some (.val (.ref (sad t)))
  | _ => True
def xLH (ad sad : Nat → Nat) (w : XW) (ls : Array Slot) (nL : Nat) (L : XL) : Prop := ls.size = nL ∧ lv_wf ls ∧ ∀ (j : Nat) (v : Value), L[j]? = some (some v) → xLv ad sad w ls L j v
theorem xLH.grow {ad ad' sad : Nat → Nat} {w w' : XW} {ls : Array Slot} {nL : Nat} {L : XL} (h : xLH ad sad w ls nL L) (hn : xn w ≤ xn w') (ha : ∀ a, a < xn w → ad' a = ad a) : xLH ad' sad w' ls nL L := by
  refine ⟨h.1, h.2.1, fun j v hj => ?_⟩
  have h1 := h.2.2 j v hj
  cases v with
  | ref a => exact ⟨by rw [ha a h1.2]; exact h1.1, Nat.lt_of_lt_of_le h1.2 hn⟩
  | _ => exact h1
theorem xs_grow {w w' : XW} {st : List Value} (hn : xn w ≤ xn w') (hs : ∀ u ∈ st, xvs w u) : ∀ u ∈ st, xvs w' u := by
  intro u hu
  have h := hs u hu
  cases u with
  | ref a => exact Nat.lt_of_lt_of_le h hn
  | _ => exact h
theorem xs_map {ad ad' sad : Nat → Nat} {w : XW} {st : List Value} (ha : ∀ a, a < xn w → ad' a = ad a) (hs : ∀ u ∈ st, xvs w u) : st.map (xv ad sad) = st.map (xv ad' sad) := by
  apply List.map_congr_left
  intro u hu
  have h := hs u hu
  cases u with
  | ref a => show Value.ref (ad a) = Value.ref (ad' a); rw [ha a h]
  | _ => rfl
def xall (ls : Array Slot) : List (Nat × Value) := (List.range ls.size).filterMap (fun (j : Nat) => match (ls[j]? : Option Slot) with
  | some (.val v) => some (j, v)
  | _ => none)
theorem xall_mem {ls : Array Slot} {j : Nat} {v : Value} (h : ls[j]? = some (.val v)) : (j, v) ∈ xall ls := by
  unfold xall
  refine List.mem_filterMap.mpr ⟨j, List.mem_range.mpr (lv_lt h), ?_⟩
  rw [h]
theorem xall_has {ad sad : Nat → Nat} {w : XW} {ls : Array Slot} {nL : Nat} {L : XL} (h : xLH ad sad w ls nL L) : lv_has ls nL (xall ls) := by
  refine ⟨h.1, h.2.1, fun q hq => ?_⟩
  unfold xall at hq
  obtain ⟨j, -, hj⟩ := List.mem_filterMap.mp hq
  cases hls : ls[j]? with
  | none => rw [hls] at hj; cases hj
  | some sl =>
    rw [hls] at hj
    cases sl with
    | val v => cases hj; exact hls
    | _ => cases hj
theorem x_st1 {ad sad : Nat → Nat} {w : XW} {ls ls' : Array Slot} {nL i : Nat} {L : XL} {v : Value} (h : xLH ad sad w ls nL L) (hv : v.category = 1) (hv7 : v ≠ .retAddr 7) (hval : xvs w v)
    (h' : lv_has ls' nL ((i, xv ad sad v) :: (xall ls).filter (fun q => !(q.1 == i) && !(q.1 + 1 == i && q.2.category == 2)))) : xLH ad sad w ls' nL (xst L i v) := by
  have keep : ∀ (j : Nat) (u : Value), j ≠ i → ¬ (j + 1 = i ∧ u.category = 2) → ls[j]? = some (.val u) → ls'[j]? = some (.val u) := by
    intro j u h1 h2 h3
    refine h'.2.2 (j, u) (List.mem_cons_of_mem _ (List.mem_filter.mpr ⟨xall_mem h3, ?_⟩))
    simp only [Bool.and_eq_true, Bool.not_eq_true', beq_eq_false_iff_ne, ne_eq, Bool.and_eq_false_iff]
    refine ⟨h1, ?_⟩
    by_cases e : j + 1 = i
    · exact Or.inr (fun q => h2 ⟨e, q⟩)
    · exact Or.inl e
  refine ⟨h'.1, h'.2.1, fun j u hj => ?_⟩
  unfold xst at hj
  rw [List.getElem?_set] at hj
  by_cases e : i = j
  · subst e
    rw [if_pos rfl] at hj
    split at hj
    · have hu : u = v := by
        have := Option.some.inj hj
        exact (Option.some.inj this).symm
      subst hu
      have h0 := h'.2.2 (i, xv ad sad u) List.mem_cons_self
      cases u with
      | int z => exact h0
      | long z => cases hv
      | null => exact h0
      | ref z => exact ⟨h0, hval⟩
      | retAddr t => exact fun _ => h0
      | float z => trivial
      | double z => trivial
    · cases hj
  · rw [if_neg e] at hj
    have h1 := h.2.2 j u hj
    have e' : j ≠ i := fun q => e q.symm
    cases u with
    | int z => exact keep j _ e' (fun q => by cases q.2) h1
    | long z =>
      intro hm
      unfold xst at hm
      rw [List.getElem?_set] at hm
      by_cases e2 : i = j + 1
      · rw [if_pos e2] at hm
        split at hm
        · have := Option.some.inj (Option.some.inj hm)
          exact absurd this hv7
        · cases hm
      · rw [if_neg e2] at hm
        exact keep j _ e' (fun q => e2 q.1.symm) (h1 hm)
    | null => exact keep j _ e' (fun q => by cases q.2) h1
    | ref z => exact ⟨keep j _ e' (fun q => by cases q.2) h1.1, h1.2⟩
    | retAddr t => exact fun ht => keep j _ e' (fun q => by cases q.2) (h1 ht)
    | float z => trivial
    | double z => trivial
theorem x_st2 {ad sad : Nat → Nat} {w : XW} {ls ls' : Array Slot} {nL i : Nat} {L : XL} {z : Int64} (h : xLH ad sad w ls nL L)
    (h' : lv_has ls' nL ((i, Value.long z) :: (xall ls).filter (fun q => !(q.1 == i) && (!(q.1 == i + 1) && !(q.1 + 1 == i && q.2.category == 2))))) : xLH ad sad w ls' nL (xst2 L i (.long z)) := by
  have keep : ∀ (j : Nat) (u : Value), j ≠ i → j ≠ i + 1 → ¬ (j + 1 = i ∧ u.category = 2) → ls[j]? = some (.val u) → ls'[j]? = some (.val u) := by
    intro j u h1 h4 h2 h3
    refine h'.2.2 (j, u) (List.mem_cons_of_mem _ (List.mem_filter.mpr ⟨xall_mem h3, ?_⟩))
    simp only [Bool.and_eq_true, Bool.not_eq_true', beq_eq_false_iff_ne, ne_eq, Bool.and_eq_false_iff]
    refine ⟨h1, h4, ?_⟩
    by_cases e : j + 1 = i
    · exact Or.inr (fun q => h2 ⟨e, q⟩)
    · exact Or.inl e
  refine ⟨h'.1, h'.2.1, fun j u hj => ?_⟩
  unfold xst2 at hj
  rw [List.getElem?_set] at hj
  by_cases e : i + 1 = j
  · subst e
    rw [if_pos rfl] at hj
    split at hj
    · have hu : u = .retAddr 7 := by
        have := Option.some.inj hj
        exact (Option.some.inj this).symm
      subst hu
      exact fun q => absurd q (by decide)
    · cases hj
  · rw [if_neg e, List.getElem?_set] at hj
    by_cases e2 : i = j
    · subst e2
      rw [if_pos rfl] at hj
      split at hj
      · have hu : u = .long z := by
          have := Option.some.inj hj
          exact (Option.some.inj this).symm
        subst hu
        exact fun _ => h'.2.2 (i, .long z) List.mem_cons_self
      · cases hj
    · rw [if_neg e2] at hj
      have h1 := h.2.2 j u hj
      have n1 : j ≠ i := fun q => e2 q.symm
      have n2 : j ≠ i + 1 := fun q => e q.symm
      cases u with
      | int z => exact keep j _ n1 n2 (fun q => by cases q.2) h1
      | long z2 =>
        intro hm
        unfold xst2 at hm
        rw [List.getElem?_set, if_neg (fun q => e2 (Nat.succ.inj q)), List.getElem?_set] at hm
        by_cases e3 : i = j + 1
        · rw [if_pos e3] at hm
          split at hm
          · cases Option.some.inj (Option.some.inj hm)
          · cases hm
        · rw [if_neg e3] at hm
          exact keep j _ n1 n2 (fun q => e3 q.1.symm) (h1 hm)
      | null => exact keep j _ n1 n2 (fun q => by cases q.2) h1
      | ref z => exact ⟨keep j _ n1 n2 (fun q => by cases q.2) h1.1, h1.2⟩
      | retAddr t => exact fun ht => keep j _ n1 n2 (fun q => by cases q.2) (h1 ht)
      | float z => trivial
      | double z => trivial
/-- static arrays, and the script -/
def xSt (sad : Nat → Nat) (sc : Nat × (Nat → Int32)) (A : Nat → Prop) (U : State) (H : Heap) : Prop :=
  (∀ t, t < 4 → va_Z (xstC t).1 (xstC t).2.1 (xstC t).2.2 (.ref (sad t)) A U H) ∧ va_T .long (sad 0) 14 (fun j => .long (lI (xsl j))) A U H ∧
  (∀ t, 0 < t → t < 4 → va_T .int (sad t) (xsiN t) (fun j => .int (iI (xsi t j))) A U H) ∧ va_T .int (sad 4) sc.1 (fun j => .int (sc.2 j)) A U H ∧ va_AO "SignBench$Table" U
theorem xSt.moved {sad : Nat → Nat} {sc : Nat × (Nat → Int32)} {A : Nat → Prop} {u U : State} {H : Heap} (hvm : u.vm.Alike U.vm) (h : xSt sad sc A u H) : xSt sad sc A U H :=
  ⟨fun t ht => (h.1 t ht).moved hvm, h.2.1.moved hvm, fun t h0 ht => (h.2.2.1 t h0 ht).moved hvm, h.2.2.2.1.moved hvm, h.2.2.2.2.moved hvm⟩
theorem xSt.kept {sad : Nat → Nat} {sc : Nat × (Nat → Int32)} {A : Nat → Prop} {U : State} {H H1 : Heap} (h : xSt sad sc A U H) (hq : ∀ a : Nat, a < H.size → ¬ A a → H1[a]? = H[a]?) : xSt sad sc A U H1 :=
  ⟨fun t ht => (h.1 t ht).kept hq, h.2.1.kept hq, fun t h0 ht => (h.2.2.1 t h0 ht).kept hq, h.2.2.2.1.kept hq, h.2.2.2.2⟩
theorem xSt.narrow {sad : Nat → Nat} {sc : Nat × (Nat → Int32)} {A B : Nat → Prop} {U : State} {H : Heap} (h : xSt sad sc A U H) (hAB : ∀ q, B q → A q) : xSt sad sc B U H :=
  ⟨fun t ht => (h.1 t ht).narrow hAB, h.2.1.narrow hAB, fun t h0 ht => (h.2.2.1 t h0 ht).narrow hAB, h.2.2.2.1.narrow hAB, h.2.2.2.2⟩
theorem xAr.moved {cA : Nat → ClassId} {w : XW} {u U : State} (hvm : u.vm.Alike U.vm) (h : xAr cA w u) : xAr cA w U := fun a ha h0 => ⟨arrOfT_moved hvm (h a ha h0).1, (h a ha h0).2.moved hvm⟩
/-- the picture holds of the heap, in a run of a method that began with n0 cells -/
def xI (D : va_G) (ad0 : Nat → Nat) (cA0 : Nat → ClassId) (n0 : Nat) (sc : Nat × (Nat → Int32)) (A : Nat → Prop) (s : State) (ad : Nat → Nat) (cA : Nat → ClassId) (w : XW) (H : Heap) (locs : List Loc) : Prop :=
  va_P D vwCl (xws ad cA w) H ∧ va_D A (xws ad cA w) ∧ xAr cA w s ∧ xVR w ∧ va_S A s.heap H locs ∧ xSc w = sc ∧ n0 ≤ xn w ∧ ∀ a, a < n0 → ad a = ad0 a ∧ cA a = cA0 a
theorem xI.upd {D : va_G} {ad0 : Nat → Nat} {cA0 : Nat → ClassId} {n0 : Nat} {sc : Nat × (Nat → Int32)} {A : Nat → Prop} {s : State} {ad : Nat → Nat} {cA : Nat → ClassId} {w : XW} {H : Heap} {locs : List Loc} (hI : xI D ad0 cA0 n0 sc A s ad cA w H locs)
    {a : Nat} {w' : XW} {E : va_E} {H1 : Heap} {locs1 : List Loc} (hn : xn w' = xn w) (hsc : xSc w' = xSc w) (ho : ∀ q, q ≠ a → xcell ad cA w' q = xcell ad cA w q) (hE : xcell ad cA w' a = E) (hv : xVR w') (hP : va_P D vwCl ((xws ad cA w).set a (ad a, E)) H1) (hD : va_D A ((xws ad cA w).set a (ad a, E))) (hS : va_S A s.heap H1 locs1) :
    xI D ad0 cA0 n0 sc A s ad cA w' H1 locs1 := by
  obtain ⟨-, -, h3, h4, -, h6, h7, h8⟩ := hI
  rw [xws_set hn ho hE] at hP hD
  exact ⟨hP, hD, fun q hq h0 => h3 q (by rw [← hn]; exact hq) h0, hv, hS, by rw [hsc]; exact h6, by rw [hn]; exact h7, h8⟩
