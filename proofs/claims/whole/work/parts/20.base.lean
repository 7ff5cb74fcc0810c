/-! ===== LAYER 1, BASE (own work): numbers, steps of the interpreter's terms, loops ===== -/
theorem iI_add (a b : Int) : iI a + iI b = iI (a + b) := (Int32.ofInt_add a b).symm
theorem iI_sub (a b : Int) : iI a - iI b = iI (a - b) := (Int32.ofInt_sub a b).symm
theorem iI_mul (a b : Int) : iI a * iI b = iI (a * b) := (Int32.ofInt_mul a b).symm
theorem iI_neg (a : Int) : -iI a = iI (-a) := (Int32.ofInt_neg a).symm
theorem iI_zero : (0 : Int32) = iI 0 := rfl
theorem iI_one : (1 : Int32) = iI 1 := rfl
theorem iI_to (x : Int32) : iI x.toInt = x := Int32.ofInt_toInt x
theorem iI_ex (x : Int32) : ∃ z : Int, x = iI z ∧ -2147483648 ≤ z ∧ z < 2147483648 := ⟨x.toInt, (iI_to x).symm, x.le_toInt, x.toInt_lt⟩
theorem iI_val {a : Int} (h : -2147483648 ≤ a ∧ a < 2147483648) : (iI a).toInt = a := Int32.toInt_ofInt_of_le h.1 h.2
theorem iI_le {a b : Int} (ha : -2147483648 ≤ a ∧ a < 2147483648) (hb : -2147483648 ≤ b ∧ b < 2147483648) : iI a ≤ iI b ↔ a ≤ b := by rw [Int32.le_iff_toInt_le, iI_val ha, iI_val hb]
theorem iI_lt {a b : Int} (ha : -2147483648 ≤ a ∧ a < 2147483648) (hb : -2147483648 ≤ b ∧ b < 2147483648) : iI a < iI b ↔ a < b := by rw [Int32.lt_iff_toInt_lt, iI_val ha, iI_val hb]
theorem iI_eq {a b : Int} (ha : -2147483648 ≤ a ∧ a < 2147483648) (hb : -2147483648 ≤ b ∧ b < 2147483648) : iI a = iI b ↔ a = b := by
  refine ⟨fun h => ?_, fun h => by rw [h]⟩
  have := congrArg Int32.toInt h
  rwa [iI_val ha, iI_val hb] at this
theorem iI_nat {a : Int} (h : -2147483648 ≤ a ∧ a < 2147483648) : (iI a).toNatClampNeg = a.toNat := Int32.toNatClampNeg_ofInt_of_le h.1 h.2
theorem iI_natk (k : Nat) (h : k < 2147483648) : (iI (k : Int)).toNatClampNeg = k := by rw [iI_nat ⟨by omega, by omega⟩]; rfl
theorem xin_t {a : Int} {n : Nat} (h : 0 ≤ a ∧ a < n ∧ a < 2147483648) : xin (iI a) n = true := by
  unfold xin
  rw [iI_nat ⟨by omega, h.2.2⟩]
  have h0 : (0 : Int32) ≤ iI a := (iI_le (a := 0) (by decide) ⟨by omega, h.2.2⟩).mpr h.1
  simp only [h0, decide_true, Bool.true_and, decide_eq_true_eq]
  omega
def bI (b : Bool) : Int32 := match b with
  | true => 1
  | false => 0
theorem bI_t : bI true = iI 1 := rfl
theorem bI_f : bI false = iI 0 := rfl
theorem bI_z {b : Bool} : bI b = 0 ↔ b = false := by cases b <;> decide
theorem xbz_b (b : Bool) (w : XW) : xbz (bI b) w = some (.int (bI b), w) := by cases b <;> rfl
theorem xbz_1 (w : XW) : xbz (iI 1) w = some (.int (bI true), w) := rfl
theorem xbz_0 (w : XW) : xbz (iI 0) w = some (.int (bI false), w) := rfl
/-! steps: an equation's left side goes on -/
section XSTEP
variable {α β : Type}
theorem s_g {b : Bool} {o x : Option α} (h : b = true) (k : o = x) : xg b o = x := by rw [h]; exact k
theorem s_o {o : Option β} {f : β → Option α} {x : Option α} {q : β} (h : o = some q) (k : f q = x) : xo o f = x := by rw [h]; exact k
theorem s_I {o : Option XR} {f : Int32 → XW → Option XR} {x : Option XR} {z : Int32} {w : XW} (h : o = some (.int z, w)) (k : f z w = x) : xbI o f = x := by rw [h]; exact k
theorem s_J {o : Option XR} {f : Int64 → XW → Option XR} {x : Option XR} {z : Int64} {w : XW} (h : o = some (.long z, w)) (k : f z w = x) : xbJ o f = x := by rw [h]; exact k
theorem s_A {o : Option XR} {f : Value → XW → Option XR} {x : Option XR} {a : Nat} {w : XW} (h : o = some (.ref a, w)) (k : f (.ref a) w = x) : xbA o f = x := by rw [h]; exact k
theorem s_An {o : Option XR} {f : Value → XW → Option XR} {x : Option XR} {w : XW} (h : o = some (.null, w)) (k : f .null w = x) : xbA o f = x := by rw [h]; exact k
theorem s_V {o : Option XR} {f : XW → Option XR} {x : Option XR} {v : Value} {w : XW} (h : o = some (v, w)) (k : f w = x) : xbV o f = x := by rw [h]; exact k
theorem s_t {p : Prop} [Decidable p] {a b x : α} (h : p) (k : a = x) : (if p then a else b) = x := by rw [if_pos h]; exact k
theorem s_f {p : Prop} [Decidable p] {a b x : α} (h : ¬ p) (k : b = x) : (if p then a else b) = x := by rw [if_neg h]; exact k
theorem s_let {a b : Int} {A B x : α} (h : a ≤ b ∧ -2147483648 ≤ a ∧ b < 2147483648) (k : A = x) : (if iI a ≤ iI b then A else B) = x := s_t ((iI_le ⟨h.2.1, by omega⟩ ⟨by omega, h.2.2⟩).mpr h.1) k
theorem s_lef {a b : Int} {A B x : α} (h : b < a ∧ -2147483648 ≤ b ∧ a < 2147483648) (k : B = x) : (if iI a ≤ iI b then A else B) = x := s_f (fun q => by have := (iI_le ⟨by omega, h.2.2⟩ ⟨h.2.1, by omega⟩).mp q; omega) k
theorem s_ltt {a b : Int} {A B x : α} (h : a < b ∧ -2147483648 ≤ a ∧ b < 2147483648) (k : A = x) : (if iI a < iI b then A else B) = x := s_t ((iI_lt ⟨h.2.1, by omega⟩ ⟨by omega, h.2.2⟩).mpr h.1) k
theorem s_ltf {a b : Int} {A B x : α} (h : b ≤ a ∧ -2147483648 ≤ b ∧ a < 2147483648) (k : B = x) : (if iI a < iI b then A else B) = x := s_f (fun q => by have := (iI_lt ⟨by omega, h.2.2⟩ ⟨h.2.1, by omega⟩).mp q; omega) k
theorem s_eqt {a b : Int} {A B x : α} (h : a = b) (k : A = x) : (if iI a = iI b then A else B) = x := s_t (by rw [h]) k
theorem s_eqf {a b : Int} {A B x : α} (h : a ≠ b ∧ (-2147483648 ≤ a ∧ a < 2147483648) ∧ (-2147483648 ≤ b ∧ b < 2147483648)) (k : B = x) : (if iI a = iI b then A else B) = x := s_f (fun q => h.1 ((iI_eq h.2.1 h.2.2).mp q)) k
theorem s_bt {b : Bool} {A B x : α} (h : b = true) (k : B = x) : (if bI b = 0 then A else B) = x := s_f (fun q => by rw [bI_z.mp q] at h; cases h) k
theorem s_bf {b : Bool} {A B x : α} (h : b = false) (k : A = x) : (if bI b = 0 then A else B) = x := s_t (bI_z.mpr h) k
theorem s_pt {p : Prop} [Decidable p] {A B x : α} (h : p) (k : B = x) : (if bI (decide p) = 0 then A else B) = x := s_bt (decide_eq_true h) k
theorem s_pf {p : Prop} [Decidable p] {A B x : α} (h : ¬ p) (k : A = x) : (if bI (decide p) = 0 then A else B) = x := s_bf (decide_eq_false h) k
end XSTEP
/-! loops in closed form -/
theorem x_up {α : Type} (F : Nat → α) {N : Nat} (h : ∀ k, k < N → F k = F (k + 1)) : ∀ k, k ≤ N → F k = F N := by
  intro k hk
  obtain ⟨d, hd⟩ : ∃ d, N = k + d := ⟨N - k, by omega⟩
  induction d generalizing k with
  | zero => rw [hd]; rfl
  | succ d ih =>
    rw [h k (by omega)]
    exact ih (k + 1) (by omega) (by omega)
/-- the first k below n with p, else n -/
def firstN (p : Nat → Bool) : Nat → Nat
  | 0 => 0
  | n + 1 => if firstN p n < n then firstN p n else if p n then n else n + 1
theorem firstN_le (p : Nat → Bool) (n : Nat) : firstN p n ≤ n := by
  induction n with
  | zero => exact Nat.le_refl _
  | succ n ih =>
    unfold firstN
    split
    · omega
    · split <;> omega
theorem firstN_no {p : Nat → Bool} {n k : Nat} (h : k < firstN p n) : p k = false := by
  induction n with
  | zero => exact absurd h (Nat.not_lt_zero _)
  | succ n ih =>
    unfold firstN at h
    split at h
    · exact ih h
    · have h1 : firstN p n = n := Nat.le_antisymm (firstN_le p n) (by omega)
      split at h
      · exact ih (by omega)
      · rename_i h2
        rcases Nat.lt_or_ge k n with q | q
        · exact ih (by omega)
        · have : k = n := by omega
          rw [this]; simpa using h2
theorem firstN_yes {p : Nat → Bool} {n : Nat} (h : firstN p n < n) : p (firstN p n) = true := by
  induction n with
  | zero => exact absurd h (Nat.not_lt_zero _)
  | succ n ih =>
    unfold firstN at h ⊢
    split
    · rename_i h1; exact ih h1
    · split
      · rename_i h2; exact h2
      · rename_i h1 h2
        rw [if_neg h1, if_neg h2] at h
        exact absurd h (Nat.lt_irrefl _)
theorem firstN_all {p : Nat → Bool} {n : Nat} (h : ∀ k, k < n → p k = false) : firstN p n = n := by
  rcases Nat.lt_or_ge (firstN p n) n with q | q
  · exact absurd (firstN_yes q) (by rw [h _ q]; decide)
  · exact Nat.le_antisymm (firstN_le p n) q
theorem firstN_at {p : Nat → Bool} {n k : Nat} (hk : k < n) (hp : p k = true) (h : ∀ j, j < k → p j = false) : firstN p n = k := by
  rcases Nat.lt_trichotomy (firstN p n) k with q | q | q
  · have := firstN_yes (p := p) (n := n) (by omega)
    rw [h _ q] at this; cases this
  · exact q
  · have := firstN_no q
    rw [hp] at this; cases this
/-- a loop that may be left early -/
theorem x_ex {α : Type} (F : Nat → α) (R : Nat → α) (p : Nat → Bool) {N : Nat} (h : ∀ k, k < N → p k = false → F k = F (k + 1)) (hx : ∀ k, k < N → p k = true → F k = R k) : F 0 = if firstN p N < N then R (firstN p N) else F N := by
  have up : ∀ k, k ≤ firstN p N → F 0 = F k := by
    intro k hk
    induction k with
    | zero => rfl
    | succ k ih => rw [ih (by omega)]; exact h k (by have := firstN_le p N; omega) (firstN_no (n := N) (by omega))
  split
  · rename_i hq
    rw [up _ (Nat.le_refl _)]
    exact hx _ hq (firstN_yes hq)
  · rename_i hq
    have : firstN p N = N := Nat.le_antisymm (firstN_le p N) (by omega)
    rw [← this]
    exact up _ (Nat.le_refl _)
def sumF (f : Nat → Int) : Nat → Int
  | 0 => 0
  | n + 1 => sumF f n + f n
theorem sumF_congr {f g : Nat → Int} {n : Nat} (h : ∀ k, k < n → f k = g k) : sumF f n = sumF g n := by
  induction n with
  | zero => rfl
  | succ n ih => unfold sumF; rw [ih (fun k hk => h k (by omega)), h n (by omega)]
theorem sumF_bd {f : Nat → Int} {n : Nat} {lo hi : Int} (h : ∀ k, k < n → lo ≤ f k ∧ f k ≤ hi) : lo * n ≤ sumF f n ∧ sumF f n ≤ hi * n := by
  induction n with
  | zero => exact ⟨by unfold sumF; omega, by unfold sumF; omega⟩
  | succ n ih =>
    have h1 := ih (fun k hk => h k (by omega))
    have h2 := h n (by omega)
    unfold sumF
    rw [Int.natCast_succ, Int.mul_add, Int.mul_add, Int.mul_one, Int.mul_one]
    omega
def allN (p : Nat → Bool) (n : Nat) : Bool := (List.range n).all p
theorem allN_iff {p : Nat → Bool} {n : Nat} : allN p n = true ↔ ∀ k, k < n → p k = true := by
  unfold allN
  rw [List.all_eq_true]
  exact ⟨fun h k hk => h k (List.mem_range.mpr hk), fun h k hk => h k (List.mem_range.mp hk)⟩
theorem allN_congr {p q : Nat → Bool} {n : Nat} (h : ∀ k, k < n → p k = q k) : allN p n = allN q n := by
  rw [Bool.eq_iff_iff, allN_iff, allN_iff]
  exact ⟨fun g k hk => by rw [← h k hk]; exact g k hk, fun g k hk => by rw [h k hk]; exact g k hk⟩
/-- a loop that answers false at the first k without p -/
theorem x_all {F : Nat → Option XR} {p : Nat → Bool} {N : Nat} {w : XW} (h : ∀ k, k < N → p k = true → F k = F (k + 1)) (hx : ∀ k, k < N → p k = false → F k = some (.int (bI false), w)) (hN : F N = some (.int (bI true), w)) : F 0 = some (.int (bI (allN p N)), w) := by
  rw [x_ex F (fun _ => some (.int (bI false), w)) (fun k => !p k) (N := N) (fun k hk hp => h k hk (by simpa using hp)) (fun k hk hp => hx k hk (by simpa using hp)), hN]
  split
  · rename_i hq
    have h1 := firstN_yes hq
    have : allN p N = false := by
      rw [← Bool.not_eq_true, allN_iff]
      intro h2
      rw [h2 _ hq] at h1
      cases h1
    rw [this]
  · rename_i hq
    have : allN p N = true := by
      rw [allN_iff]
      intro k hk
      have h1 := firstN_no (p := fun k => !p k) (n := N) (k := k) (by omega)
      simpa using h1
    rw [this]
/-! the same with a slot of no meaning -/
theorem x_upj {α U : Type} (F : Nat → U → α) {N : Nat} (h : ∀ k, k < N → ∀ u, ∃ u', F k u = F (k + 1) u') : ∀ k, k ≤ N → ∀ u, ∃ u', F k u = F N u' := by
  intro k hk
  obtain ⟨d, hd⟩ : ∃ d, N = k + d := ⟨N - k, by omega⟩
  induction d generalizing k with
  | zero => intro u; exact ⟨u, by rw [hd]; rfl⟩
  | succ d ih =>
    intro u
    obtain ⟨u1, h1⟩ := h k (by omega) u
    obtain ⟨u2, h2⟩ := ih (k + 1) (by omega) (by omega) u1
    exact ⟨u2, h1.trans h2⟩
theorem x_exj {α U : Type} (F : Nat → U → α) (R : Nat → α) (p : Nat → Bool) {N : Nat} (h : ∀ k, k < N → p k = false → ∀ u, ∃ u', F k u = F (k + 1) u') (hx : ∀ k, k < N → p k = true → ∀ u, F k u = R k) (u : U) : ∃ u', F 0 u = if firstN p N < N then R (firstN p N) else F N u' := by
  have up : ∀ k, k ≤ firstN p N → ∃ u', F 0 u = F k u' := by
    intro k hk
    induction k with
    | zero => exact ⟨u, rfl⟩
    | succ k ih =>
      obtain ⟨u1, h1⟩ := ih (by omega)
      obtain ⟨u2, h2⟩ := h k (by have := firstN_le p N; omega) (firstN_no (n := N) (by omega)) u1
      exact ⟨u2, h1.trans h2⟩
  obtain ⟨u1, h1⟩ := up _ (Nat.le_refl _)
  refine ⟨u1, ?_⟩
  split
  · rename_i hq
    rw [h1]
    exact hx _ hq (firstN_yes hq) u1
  · rename_i hq
    have : firstN p N = N := Nat.le_antisymm (firstN_le p N) (by omega)
    rw [h1, this]
theorem x_allj {U : Type} {F : Nat → U → Option XR} {p : Nat → Bool} {N : Nat} {w : XW} (h : ∀ k, k < N → p k = true → ∀ u, ∃ u', F k u = F (k + 1) u') (hx : ∀ k, k < N → p k = false → ∀ u, F k u = some (.int (bI false), w)) (hN : ∀ u, F N u = some (.int (bI true), w)) (u : U) : F 0 u = some (.int (bI (allN p N)), w) := by
  obtain ⟨u', h'⟩ := x_exj F (fun _ => some (.int (bI false), w)) (fun k => !p k) (N := N) (fun k hk hp => h k hk (by simpa using hp)) (fun k hk hp => hx k hk (by simpa using hp)) u
  rw [h', hN]
  split
  · rename_i hq
    have h1 := firstN_yes hq
    have : allN p N = false := by
      rw [← Bool.not_eq_true, allN_iff]
      intro h2
      rw [h2 _ hq] at h1
      cases h1
    rw [this]
  · rename_i hq
    have : allN p N = true := by
      rw [allN_iff]
      intro k hk
      have h1 := firstN_no (p := fun k => !p k) (n := N) (k := k) (by omega)
      simpa using h1
    rw [this]
/-! loops with an invariant: S what changes, U and V slots of no meaning; Q what is wanted of the answer -/
theorem x_loop {α S U : Type} (F : Nat → S → U → α) (N : Nat) (P : Nat → S → Prop) (Q : α → Prop)
    (h2 : ∀ k s u, k < N → P k s → Q (F k s u) ∨ ∃ s' u', F k s u = F (k + 1) s' u' ∧ P (k + 1) s')
    (h4 : ∀ s u, P N s → Q (F N s u)) : ∀ s u, P 0 s → Q (F 0 s u) := by
  have go : ∀ d k, k + d = N → ∀ s u, P k s → Q (F k s u) := by
    intro d
    induction d with
    | zero => intro k hk s u hp; have : k = N := by omega
              subst this; exact h4 s u hp
    | succ d ih =>
      intro k hk s u hp
      rcases h2 k s u (by omega) hp with h | ⟨s', u', he, hp'⟩
      · exact h
      · rw [he]; exact ih (k + 1) (by omega) s' u' hp'
  exact fun s u hp => go N 0 (by omega) s u hp
theorem x_nest {α S U V : Type} (O : Nat → S → U → α) (I : Nat → Nat → S → V → α) (N : Nat) (M : Nat → Nat) (P : Nat → Nat → S → Prop) (Q : α → Prop)
    (h1 : ∀ i s u, i < N → P i 0 s → ∃ v, O i s u = I i 0 s v)
    (h2 : ∀ i j s v, i < N → j < M i → P i j s → Q (I i j s v) ∨ ∃ s' v', I i j s v = I i (j + 1) s' v' ∧ P i (j + 1) s')
    (h3 : ∀ i s v, i < N → P i (M i) s → ∃ u, I i (M i) s v = O (i + 1) s u ∧ P (i + 1) 0 s)
    (h4 : ∀ s u, P N 0 s → Q (O N s u)) : ∀ s u, P 0 0 s → Q (O 0 s u) := by
  have go : ∀ d i, i + d = N → ∀ s u, P i 0 s → Q (O i s u) := by
    intro d
    induction d with
    | zero => intro i hi s u hp; have : i = N := by omega
              subst this; exact h4 s u hp
    | succ d ih =>
      intro i hi s u hp
      obtain ⟨v, hv⟩ := h1 i s u (by omega) hp
      rw [hv]
      refine x_loop (fun j s v => I i j s v) (M i) (fun j s => P i j s) Q (fun j s v hj hp => h2 i j s v (by omega) hj hp) (fun s v hp => ?_) s v hp
      obtain ⟨u', he, hp'⟩ := h3 i s v (by omega) hp
      show Q (I i (M i) s v)
      rw [he]
      exact ih (i + 1) (by omega) s u' hp'
  exact fun s u hp => go N 0 (by omega) s u hp
