/-! ===== the interpreter without fuel: the limit, and its equation ===== -/
def xle {α : Type} (a b : Option α) : Prop := ∀ x, a = some x → b = some x
def xlim {α : Type} (a : Option α) (A : Nat → Option α) : Prop := (∀ f, xle (A f) (A (f + 1))) ∧ (∀ x, a = some x → ∃ f, A f = some x) ∧ ∀ f, xle (A f) a
theorem xlim.up {α : Type} {a : Option α} {A : Nat → Option α} (h : xlim a A) {f : Nat} : ∀ g, f ≤ g → xle (A f) (A g) := by
  intro g hg
  induction g with
  | zero => intro x hx; rw [Nat.le_zero.mp hg] at hx; exact hx
  | succ g ih =>
    rcases Nat.lt_or_ge f (g + 1) with q | q
    · exact fun x hx => h.1 g x (ih (Nat.le_of_lt_succ q) x hx)
    · have e : f = g + 1 := Nat.le_antisymm hg q
      rw [e]; exact fun x hx => hx
theorem xlim.uniq {α : Type} {a b : Option α} {A : Nat → Option α} (h : xlim a A) (h2 : xlim b A) : a = b := by
  cases a with
  | some x => obtain ⟨f, hf⟩ := h.2.1 x rfl; exact (h2.2.2 f x hf).symm
  | none =>
    cases b with
    | none => rfl
    | some y => obtain ⟨f, hf⟩ := h2.2.1 y rfl; exact h.2.2 f y hf
theorem xlim_const {α : Type} (a : Option α) : xlim a (fun _ => a) := ⟨fun _ _ h => h, fun _ h => ⟨0, h⟩, fun _ _ h => h⟩
theorem xg_lim {α : Type} {a : Option α} {A : Nat → Option α} (c : Bool) (h : xlim a A) : xlim (xg c a) (fun f => xg c (A f)) := by
  cases c
  · exact xlim_const none
  · exact h
theorem xo_lim {α β : Type} (o : Option α) {k : α → Option β} {K : Nat → α → Option β} (h : ∀ q, xlim (k q) (fun f => K f q)) : xlim (xo o k) (fun f => xo o (K f)) := by
  cases o
  · exact xlim_const none
  · exact h _
theorem xde_lim {α : Type} (v : Value) {k : Nat → Option α} {K : Nat → Nat → Option α} (h : ∀ q, xlim (k q) (fun f => K f q)) : xlim (xde v k) (fun f => xde v (K f)) := by
  cases v <;> first | exact h _ | exact xlim_const none
theorem xnl_lim {α : Type} (v : Value) {a b : Option α} {A B : Nat → Option α} (h : xlim a A) (h2 : xlim b B) : xlim (xnl v a b) (fun f => xnl v (A f) (B f)) := by
  cases v <;> first | exact h | exact h2 | exact xlim_const none
theorem ite_lim {α : Type} {p : Prop} [Decidable p] {a b : Option α} {A B : Nat → Option α} (h : xlim a A) (h2 : xlim b B) : xlim (if p then a else b) (fun f => if p then A f else B f) := by
  by_cases hp : p
  · simp only [hp, if_true]; exact h
  · simp only [hp, if_false]; exact h2
theorem xif_lim (c : ClassFile.Cond) (x y : Int32) {a b : Option XR} {A B : Nat → Option XR} (h : xlim a A) (h2 : xlim b B) : xlim (xif c x y a b) (fun f => xif c x y (A f) (B f)) := by
  cases c <;> first | exact ite_lim h h2 | exact ite_lim h2 h
theorem xsw_lim (x : Int32) (ps : List (Int × Nat)) (d : Nat) {J : Nat → Option XR} {JJ : Nat → Nat → Option XR} (h : ∀ p, xlim (J p) (fun f => JJ f p)) : xlim (xsw x ps d J) (fun f => xsw x ps d (JJ f)) := by
  induction ps with
  | nil => exact h d
  | cons p ps ih => exact ite_lim (h p.2) ih
theorem xbind_lim {α β : Type} {o : Option α} {O : Nat → Option α} (ho : xlim o O) {F : Option α → Option β} {G : Nat → Option α → Option β} (hs : ∀ q, xlim (F (some q)) (fun f => G f (some q))) (hn : ∀ f, G f none = none) (hn0 : F none = none) : xlim (F o) (fun f => G f (O f)) := by
  refine ⟨fun f x hx => ?_, fun x hx => ?_, fun f x hx => ?_⟩
  · cases he : O f with
    | none => simp only [he, hn] at hx; cases hx
    | some q => simp only [he] at hx; simp only [ho.1 f q he]; exact (hs q).1 f x hx
  · cases he : o with
    | none => rw [he, hn0] at hx; cases hx
    | some q =>
      rw [he] at hx
      obtain ⟨f, hf⟩ := ho.2.1 q he
      obtain ⟨g, hg⟩ := (hs q).2.1 x hx
      refine ⟨max f g, ?_⟩
      simp only [ho.up (max f g) (Nat.le_max_left f g) q hf]
      exact (hs q).up (max f g) (Nat.le_max_right f g) x hg
  · cases he : O f with
    | none => simp only [he, hn] at hx; cases hx
    | some q => simp only [he] at hx; rw [ho.2.2 f q he]; exact (hs q).2.2 f x hx
theorem xback_lim (ty : Nat) {o : Option XR} {O : Nat → Option XR} (rest : List Value) {k : List Value → XW → Option XR} {K : Nat → List Value → XW → Option XR} (ho : xlim o O) (hk : ∀ st w, xlim (k st w) (fun f => K f st w)) : xlim (xback ty o rest k) (fun f => xback ty (O f) rest (K f)) := by
  match ty with
  | 0 =>
    refine xbind_lim (F := fun o => xbV o (fun w => k rest w)) (G := fun f o => xbV o (fun w => K f rest w)) ho (fun q => ?_) (fun _ => rfl) rfl
    exact hk _ _
  | 1 =>
    refine xbind_lim (F := fun o => xbI o (fun x w => k (.int x :: rest) w)) (G := fun f o => xbI o (fun x w => K f (.int x :: rest) w)) ho (fun q => ?_) (fun _ => rfl) rfl
    obtain ⟨v, w⟩ := q
    cases v <;> first | exact hk _ _ | exact xlim_const none
  | 2 =>
    refine xbind_lim (F := fun o => xbJ o (fun x w => k (.long x :: rest) w)) (G := fun f o => xbJ o (fun x w => K f (.long x :: rest) w)) ho (fun q => ?_) (fun _ => rfl) rfl
    obtain ⟨v, w⟩ := q
    cases v <;> first | exact hk _ _ | exact xlim_const none
  | n + 3 =>
    refine xbind_lim (F := fun o => xbA o (fun x w => k (x :: rest) w)) (G := fun f o => xbA o (fun x w => K f (x :: rest) w)) ho (fun q => ?_) (fun _ => rfl) rfl
    exact xg_lim _ (hk _ _)
theorem xcall_lim {C : Nat → Nat → List Value → XW → Option XR} {CC : Nat → Nat → Nat → List Value → XW → Option XR} (hC : ∀ d lv As w, xlim (C d lv As w) (fun f => CC f d lv As w)) (d : Nat × Nat) (fit : Bool) (As rest : List Value) (b : XB) (w : XW) {k : List Value → XB → XW → Option XR} {K : Nat → List Value → XB → XW → Option XR} (hk : ∀ st b w, xlim (k st b w) (fun f => K f st b w)) :
    xlim (xcall C d fit As rest b w k) (fun f => xcall (CC f) d fit As rest b w (K f)) := by
  unfold xcall
  apply xg_lim
  split
  · exact xg_lim _ (xback_lim _ _ (hC _ _ _ _) (fun st w => hk _ _ _))
  · exact xg_lim _ (xback_lim _ _ (hC _ _ _ _) (fun st w => hk _ _ _))
set_option maxHeartbeats 8000000 in
set_option maxRecDepth 20000 in
theorem xins_lim {J : Nat → XL → List Value → XB → XW → Option XR} {JJ : Nat → Nat → XL → List Value → XB → XW → Option XR} (hJ : ∀ pc L st b w, xlim (J pc L st b w) (fun f => JJ f pc L st b w))
    {C : Nat → Nat → List Value → XW → Option XR} {CC : Nat → Nat → Nat → List Value → XW → Option XR} (hC : ∀ d lv As w, xlim (C d lv As w) (fun f => CC f d lv As w))
    {k : XL → List Value → XB → XW → Option XR} {K : Nat → XL → List Value → XB → XW → Option XR} (hk : ∀ L st b w, xlim (k L st b w) (fun f => K f L st b w)) (c id lv pc : Nat) (i : Instr) (L : XL) (st : List Value) (b : XB) (w : XW) :
    xlim (xins J C c id lv pc i k L st b w) (fun f => xins (JJ f) (CC f) c id lv pc i (K f) L st b w) := by
  cases i <;> first
    | exact xlim_const none
    | exact hk _ _ _ _
    | exact hJ _ _ _ _ _
    | (simp only [xins]
       repeat' first
         | exact hk _ _ _ _
         | exact hJ _ _ _ _ _
         | exact xlim_const _
         | exact xcall_lim hC _ _ _ _ _ _ (fun _ _ _ => hk _ _ _ _)
         | exact xif_lim _ _ _ (hJ _ _ _ _ _) (hk _ _ _ _)
         | exact xnl_lim _ (hJ _ _ _ _ _) (hk _ _ _ _)
         | exact xnl_lim _ (hk _ _ _ _) (hJ _ _ _ _ _)
         | exact xsw_lim _ _ _ (fun _ => hJ _ _ _ _ _)
         | apply xg_lim
         | (refine xde_lim _ (fun q => ?_))
         | (refine xo_lim _ (fun q => ?_))
         | apply ite_lim
         | split)
theorem xexec_lim {J : Nat → XL → List Value → XB → XW → Option XR} {JJ : Nat → Nat → XL → List Value → XB → XW → Option XR} (hJ : ∀ pc L st b w, xlim (J pc L st b w) (fun f => JJ f pc L st b w))
    {C : Nat → Nat → List Value → XW → Option XR} {CC : Nat → Nat → Nat → List Value → XW → Option XR} (hC : ∀ d lv As w, xlim (C d lv As w) (fun f => CC f d lv As w)) (c id lv : Nat) : ∀ (is : List Instr) (pc : Nat) (L : XL) (st : List Value) (b : XB) (w : XW),
    xlim (xexec J C c id lv is pc L st b w) (fun f => xexec (JJ f) (CC f) c id lv is pc L st b w) := by
  intro is
  induction is with
  | nil => intro pc L st b w; exact hJ _ _ _ _ _
  | cons i is ih => intro pc L st b w; exact xins_lim hJ hC (fun L st b w => ih _ L st b w) c id lv pc i L st b w
theorem xexec_mono {J J' : Nat → XL → List Value → XB → XW → Option XR} (hJ : ∀ pc L st b w, xle (J pc L st b w) (J' pc L st b w))
    {C C' : Nat → Nat → List Value → XW → Option XR} (hC : ∀ d lv As w, xle (C d lv As w) (C' d lv As w)) (c id lv : Nat) (is : List Instr) (pc : Nat) (L : XL) (st : List Value) (b : XB) (w : XW) :
    xle (xexec J C c id lv is pc L st b w) (xexec J' C' c id lv is pc L st b w) := by
  have two : ∀ {α : Type} {a a' : Option α}, xle a a' → xlim a' (fun f => match f with
      | 0 => a
      | _ + 1 => a') := fun h => ⟨fun f => by cases f with
      | zero => exact h
      | succ f => exact fun x hx => hx, fun x hx => ⟨1, hx⟩, fun f => by cases f with
      | zero => exact h
      | succ f => exact fun x hx => hx⟩
  have h := xexec_lim (J := J') (JJ := fun f => match f with
      | 0 => J
      | _ + 1 => J') (fun pc L st b w => by
        have := two (hJ pc L st b w)
        refine ⟨fun f => ?_, fun x hx => ⟨1, hx⟩, fun f => ?_⟩
        · cases f with
          | zero => exact this.1 0
          | succ f => exact fun x hx => hx
        · cases f with
          | zero => exact this.2.2 0
          | succ f => exact fun x hx => hx) (C := C') (CC := fun f => match f with
      | 0 => C
      | _ + 1 => C') (fun d lv As w => by
        have := two (hC d lv As w)
        refine ⟨fun f => ?_, fun x hx => ⟨1, hx⟩, fun f => ?_⟩
        · cases f with
          | zero => exact this.1 0
          | succ f => exact fun x hx => hx
        · cases f with
          | zero => exact this.2.2 0
          | succ f => exact fun x hx => hx) c id lv is pc L st b w
  exact h.2.2 0
theorem xrf_mono : ∀ (f id lv pc : Nat) (L : XL) (st : List Value) (b : XB) (w : XW), xle (xrf f id lv pc L st b w) (xrf (f + 1) id lv pc L st b w) := by
  intro f
  induction f with
  | zero => intro id lv pc L st b w x hx; cases hx
  | succ f ih =>
    intro id lv pc L st b w
    show xle (match xblk id pc with
      | some is => xexec (xrf f id lv) (fun d lw As u => xrf f d lw 0 (xentry d As) [] (xbud d) u) (xown id) id lv is pc L st b w
      | none => none) (match xblk id pc with
      | some is => xexec (xrf (f + 1) id lv) (fun d lw As u => xrf (f + 1) d lw 0 (xentry d As) [] (xbud d) u) (xown id) id lv is pc L st b w
      | none => none)
    cases xblk id pc with
    | none => exact fun x hx => hx
    | some is => exact xexec_mono (fun pc L st b w => ih id lv pc L st b w) (fun d lw As u => ih d lw 0 _ _ _ u) _ _ _ _ _ _ _ _ _
noncomputable def xlimit {α : Type} (A : Nat → Option α) : Option α := @dite _ (∃ f x, A f = some x) (Classical.propDecidable _) (fun h => A (Classical.choose h)) (fun _ => none)
theorem xlimit_lim {α : Type} {A : Nat → Option α} (hm : ∀ f, xle (A f) (A (f + 1))) : xlim (xlimit A) A := by
  have up : ∀ g f, f ≤ g → xle (A f) (A g) := by
    intro g
    induction g with
    | zero => intro f hf x hx; rw [Nat.le_zero.mp hf] at hx; exact hx
    | succ g ih =>
      intro f hf
      rcases Nat.lt_or_ge f (g + 1) with q | q
      · exact fun x hx => hm g x (ih f (Nat.le_of_lt_succ q) x hx)
      · have e : f = g + 1 := Nat.le_antisymm hf q
        rw [e]; exact fun x hx => hx
  by_cases h : ∃ f x, A f = some x
  · have e : xlimit A = A (Classical.choose h) := by unfold xlimit; exact dif_pos h
    obtain ⟨y, hy⟩ := Classical.choose_spec h
    refine ⟨hm, fun x hx => ⟨Classical.choose h, by rw [← e]; exact hx⟩, fun f x hx => ?_⟩
    rw [e]
    have h1 := up (max f (Classical.choose h)) f (Nat.le_max_left _ _) x hx
    have h2 := up (max f (Classical.choose h)) (Classical.choose h) (Nat.le_max_right _ _) y hy
    rw [h1] at h2
    rw [hy, h2]
  · have e : xlimit A = none := by unfold xlimit; exact dif_neg h
    exact ⟨hm, fun x hx => (by rw [e] at hx; cases hx), fun f x hx => absurd ⟨f, x, hx⟩ h⟩
noncomputable def xr (id lv pc : Nat) (L : XL) (st : List Value) (b : XB) (w : XW) : Option XR := xlimit (fun f => xrf f id lv pc L st b w)
noncomputable def xm (id lv : Nat) (As : List Value) (w : XW) : Option XR := xr id lv 0 (xentry id As) [] (xbud id) w
theorem xr_lim (id lv pc : Nat) (L : XL) (st : List Value) (b : XB) (w : XW) : xlim (xr id lv pc L st b w) (fun f => xrf f id lv pc L st b w) := xlimit_lim (fun f => xrf_mono f id lv pc L st b w)
/-- the equation of a block -/
theorem xr_eq {id pc : Nat} {is : List Instr} (hk : xblk id pc = some is) (lv : Nat) (L : XL) (st : List Value) (b : XB) (w : XW) : xr id lv pc L st b w = xexec (xr id lv) xm (xown id) id lv is pc L st b w := by
  have h1 := xexec_lim (J := xr id lv) (JJ := fun f => xrf f id lv) (fun pc L st b w => xr_lim id lv pc L st b w) (C := xm) (CC := fun f d lw As u => xrf f d lw 0 (xentry d As) [] (xbud d) u) (fun d lw As u => xr_lim d lw 0 _ _ _ u) (xown id) id lv is pc L st b w
  have h0 := xr_lim id lv pc L st b w
  have e : ∀ f, xrf (f + 1) id lv pc L st b w = xexec (xrf f id lv) (fun d lw As u => xrf f d lw 0 (xentry d As) [] (xbud d) u) (xown id) id lv is pc L st b w := fun f => by
    show (match xblk id pc with
      | some is => xexec (xrf f id lv) (fun d lw As u => xrf f d lw 0 (xentry d As) [] (xbud d) u) (xown id) id lv is pc L st b w
      | none => none) = _
    rw [hk]
  refine xlim.uniq (A := fun f => xrf (f + 1) id lv pc L st b w) ⟨fun f => h0.1 (f + 1), fun x hx => ?_, fun f => h0.2.2 (f + 1)⟩ ?_
  · obtain ⟨f, hf⟩ := h0.2.1 x hx
    exact ⟨f, h0.1 f x hf⟩
  · have : (fun f => xrf (f + 1) id lv pc L st b w) = (fun f => xexec (xrf f id lv) (fun d lw As u => xrf f d lw 0 (xentry d As) [] (xbud d) u) (xown id) id lv is pc L st b w) := funext e
    rw [this]
    exact h1
theorem xm_fuel {id lv : Nat} {As : List Value} {w : XW} {x : XR} (h : xm id lv As w = some x) : ∃ f, xrf f id lv 0 (xentry id As) [] (xbud id) w = some x := (xr_lim id lv 0 _ _ _ w).2.1 x h
