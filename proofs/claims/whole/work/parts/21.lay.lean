/-! ===== LAYER 1, LAYOUT (own work): which cell is what, and what updates leave ===== -/
def xR0L : List (List (Option Nat)) := [[some 1, some 2, some 4, some 6, some 13, some 15], [], [some 3], [], [some 5], [], [some 7, some 8, some 9], [], [], [some 10, some 11, some 12], [], [], [], [some 14], [], [some 16, some 17], [], [], [some 19], [], [some 21], [], [some 23], [], [some 25], [], [some 27], [], [some 29], [], [some 31], [], [some 33], [], [none, some 35, some 36, none, none, some 37, none, none, some 38, some 39, none, some 40, some 41, some 42]]
def xR0 (a k : Nat) : Option Nat := ((xR0L.getD a []).getD k none)
def XG (w : XW) : Prop := 43 ≤ xn w ∧ (∀ a k, a < 43 → xRF w a k = xR0 a k) ∧ ∀ p, p < 8 → xRA w 1 p = some (18 + 2 * p)
theorem XG.r {w : XW} (h : XG w) {a k q : Nat} (ha : a < 43) (hq : xR0 a k = some q) : xRF w a k = some q := (h.2.1 a k ha).trans hq
def isT (a : Nat) : Prop := a = 2 ∨ a = 18 ∨ a = 20 ∨ a = 22 ∨ a = 24 ∨ a = 26 ∨ a = 28 ∨ a = 30 ∨ a = 32
theorem isT_p {p : Nat} (h : p < 8) : isT (18 + 2 * p) := by unfold isT; omega
theorem isT.lt {a : Nat} (h : isT a) : a < 33 := by unfold isT at h; omega
theorem T_ok {a : Nat} (h : isT a) : xok a 5 = true := by rcases h with rfl | rfl | rfl | rfl | rfl | rfl | rfl | rfl | rfl <;> rfl
theorem T_rv {a : Nat} (h : isT a) : xrv (.ref a) 5 = true := by rcases h with rfl | rfl | rfl | rfl | rfl | rfl | rfl | rfl | rfl <;> rfl
theorem T_R0 {a : Nat} (h : isT a) : xR0 a 0 = some (a + 1) := by rcases h with rfl | rfl | rfl | rfl | rfl | rfl | rfl | rfl | rfl <;> rfl
theorem T_oa {a : Nat} (h : isT a) (w : XW) (i : Int32) : xoa w (a + 1) 1 i = xin i 121 := by rcases h with rfl | rfl | rfl | rfl | rfl | rfl | rfl | rfl | rfl <;> rfl
theorem T_ln {a : Nat} (h : isT a) (w : XW) : xln w (a + 1) = 121 ∧ xak (a + 1) = 1 := by rcases h with rfl | rfl | rfl | rfl | rfl | rfl | rfl | rfl | rfl <;> exact ⟨rfl, rfl⟩
theorem XG.T {w : XW} (h : XG w) {a : Nat} (ha : isT a) : xRF w a 0 = some (a + 1) := h.r (by have := ha.lt; omega) (T_R0 ha)
/-! reads behind writes -/
theorem f_pF (w : XW) (a k : Nat) (v : Int32) (b j : Nat) : xIF (xpF w a k v) b j = if b = a then (if j = k then v else xIF w a j) else xIF w b j := by
  show va_up (xIF w) a (va_up (xIF w a) k v) b j = _
  unfold va_up
  split <;> rfl
theorem f_pI (w : XW) (a k : Nat) (v : Int32) : xIF (xpI w a k v) = xIF w := rfl
theorem f_pL (w : XW) (a k : Nat) (v : Int64) : xIF (xpL w a k v) = xIF w := rfl
theorem f_pG (w : XW) (a : Nat) (g : Nat → Int32) : xIF (xpG w a g) = xIF w := rfl
theorem f_mA (w : XW) (N : Nat) : xIF (xmA w N) = xIF w := rfl
theorem a_pF (w : XW) (a k : Nat) (v : Int32) : xIA (xpF w a k v) = xIA w := rfl
theorem a_pL (w : XW) (a k : Nat) (v : Int64) : xIA (xpL w a k v) = xIA w := rfl
theorem a_pI (w : XW) (a k : Nat) (v : Int32) (b j : Nat) : xIA (xpI w a k v) b j = if b = a then (if j = k then v else xIA w a j) else xIA w b j := by
  show va_up (xIA w) a (va_up (xIA w a) k v) b j = _
  unfold va_up
  split <;> rfl
theorem a_pG (w : XW) (a : Nat) (g : Nat → Int32) (b j : Nat) : xIA (xpG w a g) b j = if b = a then g j else xIA w b j := by
  show va_up (xIA w) a g b j = _
  unfold va_up
  split <;> rfl
theorem a_mA (w : XW) (N b j : Nat) : xIA (xmA w N) b j = if b = xn w then 0 else xIA w b j := by
  show va_up (xIA w) (xn w) (fun _ => 0) b j = _
  unfold va_up
  split <;> rfl
theorem l_pF (w : XW) (a k : Nat) (v : Int32) : xLA (xpF w a k v) = xLA w := rfl
theorem l_pI (w : XW) (a k : Nat) (v : Int32) : xLA (xpI w a k v) = xLA w := rfl
theorem l_pG (w : XW) (a : Nat) (g : Nat → Int32) : xLA (xpG w a g) = xLA w := rfl
theorem l_pL (w : XW) (a k : Nat) (v : Int64) (b j : Nat) : xLA (xpL w a k v) b j = if b = a then (if j = k then v else xLA w a j) else xLA w b j := by
  show va_up (xLA w) a (va_up (xLA w a) k v) b j = _
  unfold va_up
  split <;> rfl
theorem l_mA (w : XW) (N b j : Nat) : xLA (xmA w N) b j = if b = xn w then 0 else xLA w b j := by
  show va_up (xLA w) (xn w) (fun _ => 0) b j = _
  unfold va_up
  split <;> rfl
/-! the frame: what a method leaves -/
def xFr (S : Nat → Bool) (w w' : XW) : Prop := xRF w' = xRF w ∧ (∀ a, a < 43 → xRA w' a = xRA w a) ∧ xSc w' = xSc w ∧ xn w ≤ xn w' ∧ ∀ a, a < 43 → S a = false → xIF w' a = xIF w a ∧ xIA w' a = xIA w a ∧ xLA w' a = xLA w a
theorem xFr.rf (S : Nat → Bool) (w : XW) : xFr S w w := ⟨rfl, fun _ _ => rfl, rfl, Nat.le_refl _, fun _ _ _ => ⟨rfl, rfl, rfl⟩⟩
theorem xFr.tr {S : Nat → Bool} {w w1 w2 : XW} (h : xFr S w w1) (g : xFr S w1 w2) : xFr S w w2 :=
  ⟨g.1.trans h.1, fun a ha => (g.2.1 a ha).trans (h.2.1 a ha), g.2.2.1.trans h.2.2.1, Nat.le_trans h.2.2.2.1 g.2.2.2.1, fun a ha hS => ⟨(g.2.2.2.2 a ha hS).1.trans (h.2.2.2.2 a ha hS).1, (g.2.2.2.2 a ha hS).2.1.trans (h.2.2.2.2 a ha hS).2.1, (g.2.2.2.2 a ha hS).2.2.trans (h.2.2.2.2 a ha hS).2.2⟩⟩
theorem xFr.wk {S R : Nat → Bool} {w w1 : XW} (h : xFr S w w1) (hs : ∀ a, a < 43 → S a = true → R a = true) : xFr R w w1 :=
  ⟨h.1, h.2.1, h.2.2.1, h.2.2.2.1, fun a ha hR => h.2.2.2.2 a ha (by cases q : S a with
    | false => rfl
    | true => rw [hs a ha q] at hR; cases hR)⟩
theorem xFr.G {S : Nat → Bool} {w w1 : XW} (h : xFr S w w1) (g : XG w) : XG w1 := ⟨Nat.le_trans g.1 h.2.2.2.1, fun a k ha => by rw [h.1]; exact g.2.1 a k ha, fun p hp => by rw [h.2.1 1 (by omega)]; exact g.2.2 p hp⟩
theorem xFr.f {S : Nat → Bool} {w w1 : XW} (h : xFr S w w1) {a : Nat} (ha : a < 43) (hs : S a = false) : xIF w1 a = xIF w a := (h.2.2.2.2 a ha hs).1
theorem xFr.a {S : Nat → Bool} {w w1 : XW} (h : xFr S w w1) {a : Nat} (ha : a < 43) (hs : S a = false) : xIA w1 a = xIA w a := (h.2.2.2.2 a ha hs).2.1
theorem xFr.l {S : Nat → Bool} {w w1 : XW} (h : xFr S w w1) {a : Nat} (ha : a < 43) (hs : S a = false) : xLA w1 a = xLA w a := (h.2.2.2.2 a ha hs).2.2
theorem fr_pF {S : Nat → Bool} {w : XW} {a k : Nat} {v : Int32} (h : S a = true) : xFr S w (xpF w a k v) :=
  ⟨rfl, fun _ _ => rfl, rfl, Nat.le_refl _, fun b hb hS => ⟨funext fun j => (by rw [f_pF, if_neg (fun q => by rw [q, h] at hS; cases hS)]), rfl, rfl⟩⟩
theorem fr_pI {S : Nat → Bool} {w : XW} {a k : Nat} {v : Int32} (h : S a = true) : xFr S w (xpI w a k v) :=
  ⟨rfl, fun _ _ => rfl, rfl, Nat.le_refl _, fun b hb hS => ⟨rfl, funext fun j => (by rw [a_pI, if_neg (fun q => by rw [q, h] at hS; cases hS)]), rfl⟩⟩
theorem fr_pG {S : Nat → Bool} {w : XW} {a : Nat} {g : Nat → Int32} (h : S a = true) : xFr S w (xpG w a g) :=
  ⟨rfl, fun _ _ => rfl, rfl, Nat.le_refl _, fun b hb hS => ⟨rfl, funext fun j => (by rw [a_pG, if_neg (fun q => by rw [q, h] at hS; cases hS)]), rfl⟩⟩
theorem fr_pL {S : Nat → Bool} {w : XW} {a k : Nat} {v : Int64} (h : S a = true) : xFr S w (xpL w a k v) :=
  ⟨rfl, fun _ _ => rfl, rfl, Nat.le_refl _, fun b hb hS => ⟨rfl, rfl, funext fun j => (by rw [l_pL, if_neg (fun q => by rw [q, h] at hS; cases hS)])⟩⟩
/-- into a late array, or a new one -/
theorem fr_pIn {S : Nat → Bool} {w : XW} {a k : Nat} {v : Int32} (h : 43 ≤ a) : xFr S w (xpI w a k v) :=
  ⟨rfl, fun _ _ => rfl, rfl, Nat.le_refl _, fun b hb hS => ⟨rfl, funext fun j => (by rw [a_pI, if_neg (by omega)]), rfl⟩⟩
theorem fr_mA {S : Nat → Bool} {w : XW} {N : Nat} (h : 43 ≤ xn w) : xFr S w (xmA w N) :=
  ⟨rfl, fun a ha => funext fun j => (by
    show va_up (xRA w) (xn w) (fun _ => none) a j = _
    unfold va_up
    rw [if_neg (by omega)]), rfl, Nat.le_succ _, fun b hb hS => ⟨rfl, funext fun j => (by rw [a_mA, if_neg (by omega)]), funext fun j => (by rw [l_mA, if_neg (by omega)])⟩⟩
