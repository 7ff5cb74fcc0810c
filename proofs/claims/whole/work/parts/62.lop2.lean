/-! ===== LOOPS, 2 (own work): darts of a table, its ends ===== -/
def selB (b0 b1 b2 b3 : Bool) (d : Nat) : Bool := match d with
  | 0 => b0
  | 1 => b1
  | 2 => b2
  | _ => b3
def othB (b0 b1 b2 b3 : Bool) (d : Nat) : Nat := if 0 ≠ d ∧ b0 = true then 0 else if 1 ≠ d ∧ b1 = true then 1 else if 2 ≠ d ∧ b2 = true then 2 else 3
theorem two_B : ∀ b0 b1 b2 b3 : Bool, b0.toNat + b1.toNat + b2.toNat + b3.toNat = 2 → ∀ d, d < 4 → selB b0 b1 b2 b3 d = true → (othB b0 b1 b2 b3 d ≠ d ∧ othB b0 b1 b2 b3 d < 4 ∧ selB b0 b1 b2 b3 (othB b0 b1 b2 b3 d) = true ∧ ∀ e, e < 4 → selB b0 b1 b2 b3 e = true → e = d ∨ e = othB b0 b1 b2 b3 d) := by decide
theorem fst_B : ∀ b0 b1 b2 b3 : Bool, b0.toNat + b1.toNat + b2.toNat + b3.toNat = 2 → othB b0 b1 b2 b3 4 < 4 ∧ selB b0 b1 b2 b3 (othB b0 b1 b2 b3 4) = true := by decide
def sH (C : Nat → Nat → Int) (r c d : Nat) : Bool := selB (hd C false r c) (hd C true r (c + 1)) (hd C false (r + 1) c) (hd C true r c) d
def oT (C : Nat → Nat → Int) (r c d : Nat) : Nat := othB (hd C false r c) (hd C true r (c + 1)) (hd C false (r + 1) c) (hd C true r c) d
theorem toN_d (p : Prop) [Decidable p] : (decide p).toNat = if p then 1 else 0 := by
  by_cases h : p
  · rw [if_pos h, decide_eq_true h]; rfl
  · rw [if_neg h, decide_eq_false h]; rfl
section XDART
variable {n : Nat} {C : Nat → Nat → Int}
theorem cnt_H (h : asm n C) {r c : Nat} (hr : r < n) (hc : c < n) : (hd C false r c).toNat + (hd C true r (c + 1)).toNat + (hd C false (r + 1) c).toNat + (hd C true r c).toNat = 2 := by
  have e1 := h.edge (l := false) (i := r) (j := c) (show r ≤ n ∧ c < n by omega)
  have e2 := h.edge (l := true) (i := r) (j := c + 1) (show r < n ∧ c + 1 ≤ n by omega)
  have e3 := h.edge (l := false) (i := r + 1) (j := c) (show r + 1 ≤ n ∧ c < n by omega)
  have e4 := h.edge (l := true) (i := r) (j := c) (show r < n ∧ c ≤ n by omega)
  have es : eS C false r c + eS C true r (c + 1) = eS C false (r + 1) c + eS C true r c := by unfold eS; dsimp only; omega
  unfold hd
  rw [toN_d, toN_d, toN_d, toN_d]
  dsimp only
  split <;> split <;> split <;> split <;> omega
theorem oT_ok (h : asm n C) {r c d : Nat} (hr : r < n) (hc : c < n) (hd4 : d < 4) (hs : sH C r c d = true) : oT C r c d ≠ d ∧ oT C r c d < 4 ∧ sH C r c (oT C r c d) = true ∧ ∀ e, e < 4 → sH C r c e = true → e = d ∨ e = oT C r c d := two_B _ _ _ _ (cnt_H h hr hc) d hd4 hs
theorem oT_oT (h : asm n C) {r c d : Nat} (hr : r < n) (hc : c < n) (hd4 : d < 4) (hs : sH C r c d = true) : oT C r c (oT C r c d) = d := by
  obtain ⟨a1, a2, a3, a4⟩ := oT_ok h hr hc hd4 hs
  obtain ⟨b1, b2, b3, b4⟩ := oT_ok h hr hc a2 a3
  rcases a4 _ b2 b3 with q | q
  · exact q
  · exact absurd q b1
theorem oT_fst (h : asm n C) {r c : Nat} (hr : r < n) (hc : c < n) : oT C r c 4 < 4 ∧ sH C r c (oT C r c 4) = true := fst_B _ _ _ _ (cnt_H h hr hc)
end XDART
abbrev DX := Nat × Nat × Nat
def vdD (n : Nat) (C : Nat → Nat → Int) (x : DX) : Prop := x.1 < n ∧ x.2.1 < n ∧ x.2.2 < 4 ∧ sH C x.1 x.2.1 x.2.2 = true
def mvD (r c e : Nat) : DX := match e with
  | 0 => (r - 1, c, 2)
  | 1 => (r, c + 1, 3)
  | 2 => (r + 1, c, 0)
  | _ => (r, c - 1, 1)
def ouD (n r c e : Nat) : Bool := match e with
  | 0 => decide (r = 0)
  | 1 => decide (c + 1 = n)
  | 2 => decide (r + 1 = n)
  | _ => decide (c = 0)
def nxD (C : Nat → Nat → Int) (x : DX) : DX := mvD x.1 x.2.1 (oT C x.1 x.2.1 x.2.2)
def exD (n : Nat) (C : Nat → Nat → Int) (x : DX) : Bool := ouD n x.1 x.2.1 (oT C x.1 x.2.1 x.2.2)
def rvD (C : Nat → Nat → Int) (x : DX) : DX := (x.1, x.2.1, oT C x.1 x.2.1 x.2.2)
def plD (x : DX) : Nat := x.1 * 10 + x.2.1
theorem four {d : Nat} (h : d < 4) : d = 0 ∨ d = 1 ∨ d = 2 ∨ d = 3 := by omega
section XDART2
variable {n : Nat} {C : Nat → Nat → Int}
theorem mv_ok (hn : n ≤ 10) {r c e : Nat} (hr : r < n) (hc : c < n) (he : e < 4) (hs : sH C r c e = true) (ho : ouD n r c e = false) : vdD n C (mvD r c e) ∧ mvD (mvD r c e).1 (mvD r c e).2.1 (mvD r c e).2.2 = (r, c, e) ∧ ouD n (mvD r c e).1 (mvD r c e).2.1 (mvD r c e).2.2 = false ∧ plD (mvD r c e) ≠ r * 10 + c := by
  rcases four he with rfl | rfl | rfl | rfl
  · have o := of_decide_eq_false ho
    have e1 : r - 1 + 1 = r := by omega
    refine ⟨⟨show r - 1 < n by omega, hc, show 2 < 4 by decide, ?_⟩, ?_, ?_, ?_⟩
    · show hd C false (r - 1 + 1) c = true
      rw [e1]; exact hs
    · show (r - 1 + 1, c, 0) = (r, c, 0)
      rw [e1]
    · show decide (r - 1 + 1 = n) = false
      exact decide_eq_false (by omega)
    · show (r - 1) * 10 + c ≠ r * 10 + c
      omega
  · have o := of_decide_eq_false ho
    refine ⟨⟨hr, show c + 1 < n by omega, show 3 < 4 by decide, hs⟩, ?_, ?_, ?_⟩
    · show (r, c + 1 - 1, 1) = (r, c, 1)
      rfl
    · show decide (c + 1 = 0) = false
      exact decide_eq_false (by omega)
    · show r * 10 + (c + 1) ≠ r * 10 + c
      omega
  · have o := of_decide_eq_false ho
    refine ⟨⟨show r + 1 < n by omega, hc, show 0 < 4 by decide, hs⟩, ?_, ?_, ?_⟩
    · show (r + 1 - 1, c, 2) = (r, c, 2)
      rfl
    · show decide (r + 1 = 0) = false
      exact decide_eq_false (by omega)
    · show (r + 1) * 10 + c ≠ r * 10 + c
      omega
  · have o := of_decide_eq_false ho
    have e1 : c - 1 + 1 = c := by omega
    refine ⟨⟨hr, show c - 1 < n by omega, show 1 < 4 by decide, ?_⟩, ?_, ?_, ?_⟩
    · show hd C true r (c - 1 + 1) = true
      rw [e1]; exact hs
    · show (r, c - 1 + 1, 3) = (r, c, 3)
      rw [e1]
    · show decide (c - 1 + 1 = n) = false
      exact decide_eq_false (by omega)
    · show r * 10 + (c - 1) ≠ r * 10 + c
      omega
theorem rv_ok (h : asm n C) {x : DX} (hx : vdD n C x) : vdD n C (rvD C x) ∧ rvD C (rvD C x) = x ∧ plD (rvD C x) = plD x ∧ rvD C x ≠ x := by
  obtain ⟨r, c, d⟩ := x
  obtain ⟨h1, h2, h3, h4⟩ := hx
  obtain ⟨a1, a2, a3, a4⟩ := oT_ok h h1 h2 h3 h4
  refine ⟨⟨h1, h2, a2, a3⟩, ?_, rfl, fun q => a1 ?_⟩
  · show (r, c, oT C r c (oT C r c d)) = (r, c, d)
    rw [oT_oT h h1 h2 h3 h4]
  · exact congrArg (fun y : DX => y.2.2) q
theorem ex_rv (h : asm n C) {x : DX} (hx : vdD n C x) : exD n C (rvD C x) = ouD n x.1 x.2.1 x.2.2 := by
  show ouD n x.1 x.2.1 (oT C x.1 x.2.1 (oT C x.1 x.2.1 x.2.2)) = _
  rw [oT_oT h hx.1 hx.2.1 hx.2.2.1 hx.2.2.2]
theorem LW_D (h : asm n C) (hn : n ≤ 10) : LW (vdD n C) (nxD C) (rvD C) (exD n C) plD := by
  have mv : ∀ x, vdD n C x → exD n C x = false → _ := fun x hx he => mv_ok (C := C) hn hx.1 hx.2.1 (oT_ok h hx.1 hx.2.1 hx.2.2.1 hx.2.2.2).2.1 (oT_ok h hx.1 hx.2.1 hx.2.2.1 hx.2.2.2).2.2.1 he
  refine ⟨fun x hx he => (mv x hx he).1, fun x hx he => ?_, fun x y hx hy hp => ?_, fun x hx => rv_ok h hx, fun x hx he => (mv x hx he).2.2.2, fun x hx => ?_⟩
  · obtain ⟨m1, m2, m3, m4⟩ := mv x hx he
    have e := oT_oT h m1.1 m1.2.1 m1.2.2.1 m1.2.2.2
    constructor
    · show mvD (nxD C x).1 (nxD C x).2.1 (oT C (nxD C x).1 (nxD C x).2.1 (oT C (nxD C x).1 (nxD C x).2.1 (nxD C x).2.2)) = rvD C x
      unfold nxD
      rw [e, m2]; rfl
    · unfold nxD
      rw [ex_rv h m1]; exact m3
  · obtain ⟨r, c, d⟩ := x
    obtain ⟨r', c', d'⟩ := y
    obtain ⟨h1, h2, h3, h4⟩ := hx
    obtain ⟨g1, g2, g3, g4⟩ := hy
    have hp' : r * 10 + c = r' * 10 + c' := hp
    dsimp only at h1 h2 h3 h4 g1 g2 g3 g4
    have e1 : r = r' := by omega
    have e2 : c = c' := by omega
    subst e1; subst e2
    rcases (oT_ok h h1 h2 h3 h4).2.2.2 d' g3 g4 with q | q
    · left; rw [q]
    · right; rw [q]; rfl
  · have := hx.1
    have := hx.2.1
    show x.1 * 10 + x.2.1 < 100
    omega
/-! ends -/
def enD (n e : Nat) : DX := if 2 * e + 1 < n then (0, 2 * e + 1, 0) else if 2 * e + 1 < 2 * n then (2 * e + 1 - n, n - 1, 1) else if 2 * e + 1 < 3 * n then (n - 1, n - 1 - (2 * e + 1 - 2 * n), 2) else (n - 1 - (2 * e + 1 - 3 * n), 0, 3)
def ehD (n r c d : Nat) : Nat := match d with
  | 0 => c / 2
  | 1 => (n + r) / 2
  | 2 => (3 * n - 1 - c) / 2
  | _ => (4 * n - 1 - r) / 2
theorem hd_up (h : asm n C) {c : Nat} (hc : c < n) : hd C false 0 c = decide (c % 2 = 1) := by
  unfold hd eS
  dsimp only
  rw [h.1 (c + 1) (by omega), h.1 c (by omega)]
  exact decide_eq_decide.mpr (by omega)
theorem hd_rt (h : asm n C) {r : Nat} (hr : r < n) : hd C true r n = decide ((n + r) % 2 = 1) := by
  unfold hd eS
  dsimp only
  rw [h.2.2.2.1 (r + 1) (by omega), h.2.2.2.1 r (by omega)]
  exact decide_eq_decide.mpr (by omega)
theorem hd_dn (h : asm n C) {c : Nat} (hc : c < n) : hd C false n c = decide ((n + c) % 2 = 0) := by
  unfold hd eS
  dsimp only
  rw [h.2.2.1 (c + 1) (by omega), h.2.2.1 c (by omega)]
  exact decide_eq_decide.mpr (by omega)
theorem hd_lf (h : asm n C) {r : Nat} (hr : r < n) : hd C true r 0 = decide (r % 2 = 0) := by
  unfold hd eS
  dsimp only
  rw [h.2.1 (r + 1) (by omega), h.2.1 r (by omega)]
  exact decide_eq_decide.mpr (by omega)
theorem en_ok (h : asm n C) {e : Nat} (he : e < 2 * n) : vdD n C (enD n e) ∧ ouD n (enD n e).1 (enD n e).2.1 (enD n e).2.2 = true ∧ ehD n (enD n e).1 (enD n e).2.1 (enD n e).2.2 = e := by
  unfold enD
  by_cases h1 : 2 * e + 1 < n
  · rw [if_pos h1]
    refine ⟨⟨show 0 < n by omega, h1, show 0 < 4 by decide, ?_⟩, rfl, ?_⟩
    · show hd C false 0 (2 * e + 1) = true
      rw [hd_up h h1]; exact decide_eq_true (by omega)
    · show (2 * e + 1) / 2 = e
      omega
  · rw [if_neg h1]
    by_cases h2 : 2 * e + 1 < 2 * n
    · rw [if_pos h2]
      refine ⟨⟨show 2 * e + 1 - n < n by omega, show n - 1 < n by omega, show 1 < 4 by decide, ?_⟩, (show decide (n - 1 + 1 = n) = true from decide_eq_true (by omega)), ?_⟩
      · show hd C true (2 * e + 1 - n) (n - 1 + 1) = true
        rw [show n - 1 + 1 = n by omega, hd_rt h (by omega)]; exact decide_eq_true (by omega)
      · show (n + (2 * e + 1 - n)) / 2 = e
        omega
    · rw [if_neg h2]
      by_cases h3 : 2 * e + 1 < 3 * n
      · rw [if_pos h3]
        refine ⟨⟨show n - 1 < n by omega, show n - 1 - (2 * e + 1 - 2 * n) < n by omega, show 2 < 4 by decide, ?_⟩, (show decide (n - 1 + 1 = n) = true from decide_eq_true (by omega)), ?_⟩
        · show hd C false (n - 1 + 1) (n - 1 - (2 * e + 1 - 2 * n)) = true
          rw [show n - 1 + 1 = n by omega, hd_dn h (by omega)]; exact decide_eq_true (by omega)
        · show (3 * n - 1 - (n - 1 - (2 * e + 1 - 2 * n))) / 2 = e
          omega
      · rw [if_neg h3]
        refine ⟨⟨show n - 1 - (2 * e + 1 - 3 * n) < n by omega, show 0 < n by omega, show 3 < 4 by decide, ?_⟩, rfl, ?_⟩
        · show hd C true (n - 1 - (2 * e + 1 - 3 * n)) 0 = true
          rw [hd_lf h (by omega)]; exact decide_eq_true (by omega)
        · show (4 * n - 1 - (n - 1 - (2 * e + 1 - 3 * n))) / 2 = e
          omega
theorem eh_ok (h : asm n C) {r c d : Nat} (hx : vdD n C (r, c, d)) (ho : ouD n r c d = true) : ehD n r c d < 2 * n ∧ enD n (ehD n r c d) = (r, c, d) := by
  obtain ⟨h1, h2, h3, h4⟩ := hx
  dsimp only at h1 h2 h3 h4
  rcases four h3 with rfl | rfl | rfl | rfl
  · have o := of_decide_eq_true ho
    subst o
    have s : hd C false 0 c = true := h4
    rw [hd_up h h2] at s
    have := of_decide_eq_true s
    refine ⟨show c / 2 < 2 * n by omega, ?_⟩
    show enD n (c / 2) = _
    unfold enD
    rw [if_pos (by omega), show 2 * (c / 2) + 1 = c by omega]
  · have o := of_decide_eq_true ho
    have s : hd C true r (c + 1) = true := h4
    rw [o, hd_rt h h1] at s
    have := of_decide_eq_true s
    refine ⟨show (n + r) / 2 < 2 * n by omega, ?_⟩
    show enD n ((n + r) / 2) = _
    unfold enD
    rw [if_neg (by omega), if_pos (by omega), show 2 * ((n + r) / 2) + 1 - n = r by omega, show n - 1 = c by omega]
  · have o := of_decide_eq_true ho
    have s : hd C false (r + 1) c = true := h4
    rw [o, hd_dn h h2] at s
    have := of_decide_eq_true s
    refine ⟨show (3 * n - 1 - c) / 2 < 2 * n by omega, ?_⟩
    show enD n ((3 * n - 1 - c) / 2) = _
    unfold enD
    rw [if_neg (by omega), if_neg (by omega), if_pos (by omega), show n - 1 - (2 * ((3 * n - 1 - c) / 2) + 1 - 2 * n) = c by omega, show n - 1 = r by omega]
  · have o := of_decide_eq_true ho
    subst o
    have s : hd C true r 0 = true := h4
    rw [hd_lf h h1] at s
    have := of_decide_eq_true s
    refine ⟨show (4 * n - 1 - r) / 2 < 2 * n by omega, ?_⟩
    show enD n ((4 * n - 1 - r) / 2) = _
    unfold enD
    rw [if_neg (by omega), if_neg (by omega), if_neg (by omega), show n - 1 - (2 * ((4 * n - 1 - r) / 2) + 1 - 3 * n) = r by omega]
def exN (n : Nat) (C : Nat → Nat → Int) (e : Nat) : Nat := firstN (fun k => exD n C (itD (nxD C) (enD n e) k)) 100
def exX (n : Nat) (C : Nat → Nat → Int) (e : Nat) : DX := itD (nxD C) (enD n e) (exN n C e)
def lkD (n : Nat) (C : Nat → Nat → Int) (e : Nat) : Nat := ehD n (exX n C e).1 (exX n C e).2.1 (oT C (exX n C e).1 (exX n C e).2.1 (exX n C e).2.2)
theorem ex_ok (h : asm n C) (hn : n ≤ 10) {e : Nat} (he : e < 2 * n) : exN n C e < 100 ∧ (∀ j, j < exN n C e → exD n C (itD (nxD C) (enD n e) j) = false) ∧ exD n C (exX n C e) = true ∧ vdD n C (exX n C e) ∧ lkD n C e < 2 * n ∧ enD n (lkD n C e) = rvD C (exX n C e) := by
  have L := LW_D h hn
  obtain ⟨e1, e2, e3⟩ := en_ok h he
  have hs : exD n C (rvD C (enD n e)) = true := by rw [ex_rv h e1]; exact e2
  obtain ⟨K, k1, k2, k3, k4⟩ := st_exit L e1 hs
  have ek : exN n C e = K := k4
  have ex : exX n C e = itD (nxD C) (enD n e) K := by unfold exX; rw [ek]
  have hv := it_vd L e1 k2 K (Nat.le_refl _)
  rw [← ex] at k3 hv
  have hr := (rv_ok h hv).1
  have ho : ouD n (exX n C e).1 (exX n C e).2.1 (oT C (exX n C e).1 (exX n C e).2.1 (exX n C e).2.2) = true := k3
  obtain ⟨o1, o2⟩ := eh_ok h hr ho
  exact ⟨by omega, fun j hj => k2 j (by omega), k3, hv, o1, o2⟩
theorem lk_ne (h : asm n C) (hn : n ≤ 10) {e : Nat} (he : e < 2 * n) : lkD n C e ≠ e := fun q => by
  have L := LW_D h hn
  obtain ⟨a1, a2, a3, a4, a5, a6⟩ := ex_ok h hn he
  rw [q] at a6
  have e1 := (en_ok h he).1
  have := it_rev L e1 (exN n C e) 0 (fun j hj => a2 j (by omega))
  rw [Nat.zero_add] at this
  refine this ?_
  show exX n C e = rvD C (enD n e)
  rw [a6, (rv_ok h a4).2.1]
theorem lk_lk (h : asm n C) (hn : n ≤ 10) {e : Nat} (he : e < 2 * n) : lkD n C (lkD n C e) = e := by
  have L := LW_D h hn
  obtain ⟨a1, a2, a3, a4, a5, a6⟩ := ex_ok h hn he
  obtain ⟨e1, e2, e3⟩ := en_ok h he
  have V := it_vd L e1 a2
  have bk : ∀ k, k ≤ exN n C e → itD (nxD C) (enD n (lkD n C e)) k = rvD C (itD (nxD C) (enD n e) (exN n C e - k)) := by
    intro k
    induction k with
    | zero => intro _; rw [Nat.sub_zero]; exact a6
    | succ k ih =>
      intro hk
      show nxD C (itD (nxD C) (enD n (lkD n C e)) k) = _
      rw [ih (by omega), show exN n C e - k = exN n C e - (k + 1) + 1 by omega]
      exact (L.a3 _ (V _ (by omega)) (a2 _ (by omega))).1
  have fe : exN n C (lkD n C e) = exN n C e := by
    refine firstN_at (p := fun k => exD n C (itD (nxD C) (enD n (lkD n C e)) k)) a1 ?_ (fun j hj => ?_)
    · rw [bk _ (Nat.le_refl _), Nat.sub_self, show itD (nxD C) (enD n e) 0 = enD n e from rfl, ex_rv h e1]; exact e2
    · rw [bk j (by omega), show exN n C e - j = exN n C e - (j + 1) + 1 by omega]
      exact (L.a3 _ (V _ (by omega)) (a2 _ (by omega))).2
  have fx : exX n C (lkD n C e) = rvD C (enD n e) := by
    show itD (nxD C) (enD n (lkD n C e)) (exN n C (lkD n C e)) = _
    rw [fe, bk _ (Nat.le_refl _), Nat.sub_self]; rfl
  have fin : lkD n C (lkD n C e) = ehD n (rvD C (enD n e)).1 (rvD C (enD n e)).2.1 (oT C (rvD C (enD n e)).1 (rvD C (enD n e)).2.1 (rvD C (enD n e)).2.2) := by
    show ehD n (exX n C (lkD n C e)).1 (exX n C (lkD n C e)).2.1 (oT C (exX n C (lkD n C e)).1 (exX n C (lkD n C e)).2.1 (exX n C (lkD n C e)).2.2) = _
    rw [fx]
  have o2 := oT_oT h e1.1 e1.2.1 e1.2.2.1 e1.2.2.2
  rw [fin]
  show ehD n (enD n e).1 (enD n e).2.1 (oT C (enD n e).1 (enD n e).2.1 (oT C (enD n e).1 (enD n e).2.1 (enD n e).2.2)) = e
  rw [o2, e3]
end XDART2
