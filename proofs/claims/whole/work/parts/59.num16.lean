/-! ===== NUMBERS, 16 (own work): sums over all rows; the reference's number ===== -/
theorem sumN_add (f g : Nat → Nat) (n : Nat) : sumN (fun k => f k + g k) n = sumN f n + sumN g n := by
  induction n with
  | zero => rfl
  | succ n ih =>
    show sumN (fun k => f k + g k) n + (f n + g n) = sumN f n + f n + (sumN g n + g n)
    omega
theorem sumN_zero {f : Nat → Nat} {n : Nat} (h : ∀ k, k < n → f k = 0) : sumN f n = 0 := by
  induction n with
  | zero => rfl
  | succ n ih =>
    show sumN f n + f n = 0
    rw [ih (fun k hk => h k (by omega)), h n (by omega)]
theorem sumN_one {f : Nat → Nat} {n s : Nat} (hs : s < n) (h : ∀ k, k < n → k ≠ s → f k = 0) : sumN f n = f s := by
  induction n with
  | zero => exact absurd hs (Nat.not_lt_zero _)
  | succ n ih =>
    show sumN f n + f n = f s
    by_cases e : s = n
    · rw [sumN_zero (fun k hk => h k (by omega) (by omega)), e, Nat.zero_add]
    · rw [ih (by omega) (fun k hk hne => h k (by omega) hne), h n (by omega) (by omega), Nat.add_zero]
theorem sumN_mem {n : Nat} (f : Nat → Nat) : ∀ L : List Nat, L.Pairwise (fun x y => y < x) → (∀ x ∈ L, x < 2 ^ n) → sumN (fun s => if toC n s ∈ L then f (toC n s) else 0) (2 ^ n) = (L.map f).sum := by
  intro L
  induction L with
  | nil => intro _ _; exact sumN_zero (fun k _ => if_neg (fun q => by cases q))
  | cons x L ih =>
    intro hp hl
    rw [List.pairwise_cons] at hp
    have hx := hl x List.mem_cons_self
    have h1 := ih hp.2 (fun y hy => hl y (List.mem_cons_of_mem _ hy))
    have h2 : sumN (fun s => if s = toR n x then f x else 0) (2 ^ n) = f x := by
      rw [sumN_one (toR_lt n x hx) (fun k _ hk => if_neg hk), if_pos rfl]
    show _ = f x + (L.map f).sum
    rw [← h1]
    refine Eq.trans (sumN_congr (g := fun s => (if s = toR n x then f x else 0) + (if toC n s ∈ L then f (toC n s) else 0)) (fun s hs => ?_)) ?_
    · by_cases e : s = toR n x
      · have e2 : toC n s = x := by rw [e, toC_toR n x hx]
        have e3 : ¬ toC n s ∈ L := fun q => by have := hp.1 _ q; omega
        rw [if_pos e, if_neg e3, if_pos (by rw [e2]; exact List.mem_cons_self), e2]; rfl
      · have e2 : toC n s ≠ x := fun q => e (by rw [← q, toR_toC n s hs])
        rw [if_neg e, Nat.zero_add]
        by_cases m : toC n s ∈ L
        · rw [if_pos m, if_pos (List.mem_cons_of_mem _ m)]
        · rw [if_neg m, if_neg (fun q => by rcases List.mem_cons.mp q with z | z; exact e2 z; exact m z)]
    · rw [sumN_add, h2]
theorem tw_mem (r : Nat) : ∀ l : List Nat, l.Pairwise (fun x y => y < x) → ∀ x, x ∈ l.takeWhile (fun x => decide (r < x)) ↔ x ∈ l ∧ r < x := by
  intro l
  induction l with
  | nil => intro _ x; exact ⟨fun h => (by cases h), fun h => h.1⟩
  | cons y l ih =>
    intro hp x
    rw [List.pairwise_cons] at hp
    by_cases h : r < y
    · rw [List.takeWhile_cons_of_pos (p := fun x => decide (r < x)) (decide_eq_true h), List.mem_cons, List.mem_cons, ih hp.2 x]
      constructor
      · rintro (q | q)
        · exact ⟨Or.inl q, by omega⟩
        · exact ⟨Or.inr q.1, q.2⟩
      · rintro ⟨q | q, z⟩
        · exact Or.inl q
        · exact Or.inr ⟨q, z⟩
    · rw [List.takeWhile_cons_of_neg (p := fun x => decide (r < x)) (by rw [decide_eq_false h]; decide)]
      constructor
      · intro q; cases q
      · rintro ⟨q, z⟩
        rcases List.mem_cons.mp q with e | e
        · omega
        · have := hp.1 x e; omega
def gWay (n a r s : Nat) : Nat := if toC n s ∈ fl n a 0 ∧ r < toC n s then wy n (toC n s) else 0
theorem way_sum (n a r : Nat) : sumN (gWay n a r) (2 ^ n) = wayB n a r := by
  unfold wayB
  have hs := fl_sorted n a 0
  rw [← sumN_mem (wy n) _ (List.Pairwise.sublist (List.takeWhile_sublist _) hs) (fun x hx => fl_lt n a 0 x ((List.takeWhile_prefix _).subset hx))]
  refine sumN_congr (fun s _ => ?_)
  unfold gWay
  by_cases q : toC n s ∈ fl n a 0 ∧ r < toC n s
  · rw [if_pos q, if_pos ((tw_mem r _ hs _).mpr q)]
  · rw [if_neg q, if_neg (fun y => q ((tw_mem r _ hs _).mp y))]
theorem toC_z (m : Nat) : toC m 0 = 0 := by
  induction m with
  | zero => rfl
  | succ m ih => show 0 % 2 * 2 ^ m + toC m (0 / 2) = 0; rw [Nat.zero_mod, Nat.zero_div, ih, Nat.zero_mul]
theorem bt_ext (m : Nat) : ∀ x y, x < 2 ^ m → y < 2 ^ m → (∀ k, k < m → bt m x k = bt m y k) → x = y := by
  induction m with
  | zero => intro x y hx hy _; have : x < 1 := hx; have : y < 1 := hy; omega
  | succ m ih =>
    intro x y hx hy h
    have h0 := h 0 (by omega)
    rw [bt_top hx, bt_top hy] at h0
    have h1 := ih (x % 2 ^ m) (y % 2 ^ m) (Nat.mod_lt _ (pow_pos2 m)) (Nat.mod_lt _ (pow_pos2 m)) (fun k hk => by
      have := h (k + 1) (by omega)
      rw [bt_low hx hk, bt_low hy hk] at this
      exact this)
    have ex := Nat.div_add_mod x (2 ^ m)
    have ey := Nat.div_add_mod y (2 ^ m)
    rw [← ex, ← ey, h1, show x / 2 ^ m = y / 2 ^ m by omega]
theorem bt_toC {n : Nat} (s : Nat) {k : Nat} (hk : k < n) : bt n (toC n s) k = ((s / 2 ^ k % 2 : Nat) : Int) := by
  have h1 := pref_toC n s (k + 1) (by omega)
  have h0 := pref_toC n s k (by omega)
  have h1' : sumF (bt n (toC n s)) k + bt n (toC n s) k = ((cB s k + s / 2 ^ k % 2 : Nat) : Int) := h1
  omega
section XROWR
variable {n : Nat} {C : Nat → Nat → Int}
theorem rowR_lt (h : asm n C) {i : Nat} (hi : i ≤ n) : rowR C i n < 2 ^ n := rvO_lt (uC_le h hi)
theorem rowR_toC (h : asm n C) {i : Nat} (hi : i ≤ n) : toC n (rowR C i n) = crow n C i := by
  refine bt_ext n _ _ (toC_lt n _) (crow_lt h hi) (fun k hk => ?_)
  rw [bt_toC _ hk, crow_bt h hi hk, show rowR C i n / 2 ^ k % 2 = _ from rvO_digit (uC_le h hi) hk]
  have := h.2.2.2.2.2 i k hi hk
  omega
theorem rowR_cB (h : asm n C) {i : Nat} (hi : i ≤ n) : cB (rowR C i n) n = i := by rw [← cB_pop, rowR_toC h hi, crow_pop h hi]
theorem rowR_zero (h : asm n C) : rowR C 0 n = 0 := by
  have h1 := toR_toC n _ (rowR_lt h (Nat.zero_le n))
  have h2 := toR_toC n 0 (pow_pos2 n)
  rw [rowR_toC h (Nat.zero_le n), crow_zero h] at h1
  rw [toC_z, h1] at h2
  exact h2
end XROWR
section XNUM16
variable {w : XW} {A : AS}
theorem r_numberOf (h : IM w A) (hI : wI w) {z : Int} (p : Nat) (hz : z = p ∧ p < 8) : ∃ w', xm M_numberOf 0 [.ref 34, .int (iI z)] w = some (.long (lI (numC (A.1 p) (A.2.1 p) (A.1 p) : Nat)), w') ∧ IM w' A ∧ wI w' ∧ xFr mT w w' := by
  obtain ⟨rfl, hp⟩ := hz
  have hr := h.2.1 p hp
  have hsz := hr.2.2.1
  obtain ⟨w1, k1, k2, k3, k4, k5⟩ := r_work h.1 hI (z := (A.1 p : Int)) (A.1 p) ⟨rfl, hr.1.1, by have := hr.1.2; omega⟩
  have h1 : IM w1 A := IM_kK h (k2.G h.1) k3
  have hr1 := h1.2.1 p hp
  revert k1 k4 k5 hr1 hr hsz
  generalize A.1 p = n
  generalize A.2.1 p = C
  intro hr hsz k1 k4 k5 hr1
  have hn := hr.1
  have ha := hr.2.1
  have p10 : (2 : Nat) ^ n ≤ 1024 := Nat.le_trans (Nat.pow_le_pow_right (by decide) hn.2) (by decide)
  have pp := pow_pos2 n
  refine ⟨w1, ?_, h1, Or.inr ⟨n, by omega, k4, k5⟩, k2⟩
  rw [e_M_numberOf, q_M_numberOf_0]
  refine s_g rfl (s_o (h.1.r (by decide) rfl) (s_g (xin_t (n := 8) (by omega)) (s_g rfl ?_)))
  rw [iI_natk p (by omega), hsz]
  refine s_V k1 ?_
  have g0 : ∀ i, gWay n (crow n C i) (crow n C (i + 1)) 0 = 0 := fun i => if_neg (fun q => by have := q.2; rw [toC_z] at this; omega)
  have nest := x_nest (fun (i : Nat) (_ : Unit) (u : Option Value × Option Value) => xr M_numberOf 0 20 [some (.ref 34), some (.int (iI (p : Int))), some (.int (iI (n : Int))), some (.long (lI (numC n C i : Nat))), some (.retAddr 7), some (.int (iI (rowR C i n : Nat))), some (.int (iI ((i : Int) + 1))), u.1, u.2] [] (0, 0) w1)
    (fun (i j : Nat) (_ : Unit) (_ : Unit) => xr M_numberOf 0 38 [some (.ref 34), some (.int (iI (p : Int))), some (.int (iI (n : Int))), some (.long (lI ((numC n C i + sumN (gWay n (crow n C i) (crow n C (i + 1))) (j + 1) : Nat) : Int))), some (.retAddr 7), some (.int (iI (rowR C i n : Nat))), some (.int (iI ((i : Int) + 1))), some (.int (iI (rowR C (i + 1) n : Nat))), some (.int (iI ((j + 1 : Nat) : Int)))] [] (0, 0) w1)
    n (fun _ => 2 ^ n - 1) (fun _ _ _ => True) (fun o => o = some (.long (lI (numC n C n : Nat)), w1))
    (fun i s u hi _ => ⟨(), ?_⟩) (fun i j s v hi hj _ => Or.inr ⟨(), (), ?_, trivial⟩) (fun i s v hi _ => ⟨(some (.int (iI (rowR C (i + 1) n : Nat))), some (.int (iI ((2 ^ n - 1 + 1 : Nat) : Int)))), ?_, trivial⟩) (fun s u _ => ?_) () (none, none) trivial
  · rw [rowR_zero ha] at nest
    exact nest
  · show xr M_numberOf 0 20 _ [] (0, 0) w1 = _
    rw [q_M_numberOf_20]
    refine s_ltf (by omega) (s_g rfl (s_I (r_rowOf h1.1 hr1 ⟨rfl, hp⟩ (i + 1) (by omega)) ?_))
    show _ = xr M_numberOf 0 38 [_, _, _, some (.long (lI ((numC n C i + (0 + gWay n (crow n C i) (crow n C (i + 1)) 0) : Nat) : Int))), _, _, _, _, _] [] (0, 0) w1
    rw [g0]; rfl
  · have hf := r_follow (w := w1) (n := n) (by omega) (rowR_lt ha (i := i) (by omega)) (s := j + 1) (by omega) (i := i + 1) (by rw [rowR_cB ha (by omega)]) (za := (rowR C i n : Nat)) (zs := ((j + 1 : Nat) : Int)) (zi := (i : Int) + 1) ⟨rfl, rfl, by omega⟩
    have hd := r_ahead (w := w1) hn.2 (s := j + 1) (by omega) (rowR_lt ha (i := i + 1) (by omega)) (zs := ((j + 1 : Nat) : Int)) (zt := (rowR C (i + 1) n : Nat)) ⟨rfl, rfl⟩
    rw [rowR_toC ha (by omega)] at hf hd
    have nxt : ∀ x : Nat, x = gWay n (crow n C i) (crow n C (i + 1)) (j + 1) → xr M_numberOf 0 79 [some (.ref 34), some (.int (iI (p : Int))), some (.int (iI (n : Int))), some (.long (lI ((numC n C i + sumN (gWay n (crow n C i) (crow n C (i + 1))) (j + 1) + x : Nat) : Int))), some (.retAddr 7), some (.int (iI (rowR C i n : Nat))), some (.int (iI ((i : Int) + 1))), some (.int (iI (rowR C (i + 1) n : Nat))), some (.int (iI ((j + 1 : Nat) : Int)))] [] (0, 0) w1 = xr M_numberOf 0 38 [some (.ref 34), some (.int (iI (p : Int))), some (.int (iI (n : Int))), some (.long (lI ((numC n C i + sumN (gWay n (crow n C i) (crow n C (i + 1))) (j + 1 + 1) : Nat) : Int))), some (.retAddr 7), some (.int (iI (rowR C i n : Nat))), some (.int (iI ((i : Int) + 1))), some (.int (iI (rowR C (i + 1) n : Nat))), some (.int (iI ((j + 1 + 1 : Nat) : Int)))] [] (0, 0) w1 := fun x hx => by
      rw [q_M_numberOf_79, iI_add, hx, Nat.add_assoc]; rfl
    show xr M_numberOf 0 38 _ [] (0, 0) w1 = _
    rw [q_M_numberOf_38, iI_pow (by omega)]
    refine s_lef (by omega) (s_g rfl (s_I hf ?_))
    by_cases m1 : toC n (j + 1) ∈ fl n (crow n C i) 0
    · refine s_pt m1 (s_I hd ?_)
      by_cases m2 : crow n C (i + 1) < toC n (j + 1)
      · refine s_pt m2 (s_g rfl (s_o (h1.1.r (by decide) rfl) (s_g (xin_t (n := 8192) (by omega)) ?_)))
        rw [iI_natk _ (by omega), k5 (j + 1) (by omega) (by omega), lI_add, ← Int.natCast_add]
        exact nxt _ (by unfold gWay; rw [if_pos ⟨m1, m2⟩])
      · exact s_pf m2 (nxt 0 (by unfold gWay; rw [if_neg (fun q => m2 q.2)]))
    · exact s_pf m1 (nxt 0 (by unfold gWay; rw [if_neg (fun q => m1 q.1)]))
  · show xr M_numberOf 0 38 _ [] (0, 0) w1 = _
    rw [q_M_numberOf_38, iI_pow (by omega)]
    refine s_let (by omega) ?_
    rw [q_M_numberOf_85, iI_add, show 2 ^ n - 1 + 1 = 2 ^ n by omega, way_sum]
    rfl
  · show xr M_numberOf 0 20 _ [] (0, 0) w1 = _
    rw [q_M_numberOf_20]
    refine s_ltt (by omega) ?_
    rw [q_M_numberOf_95]
theorem r_number (h : IM w A) (hI : wI w) {z : Int} (hz : i32 z) : ∃ w', xm M_number 0 [.ref 34, .int (iI z)] w = some (.long (o_number A z), w') ∧ IM w' A ∧ wI w' ∧ xFr mT w w' := by
  have h0 := IM_F (k := 0) (v := iI 0) h (by decide)
  have f0 : mFr w (xpF w 34 0 (iI 0)) := mFr_F (by decide)
  rw [e_M_number, q_M_number_0]
  unfold o_number
  by_cases h1 : 0 ≤ z ∧ z < 8
  · rw [if_pos h1]
    obtain ⟨w', k1, k2, k3, k4⟩ := r_numberOf h0 (wI_m hI f0) (z := z) z.toNat (by omega)
    refine ⟨w', s_g rfl (s_I (r_knows hz) (s_pt h1 (s_g rfl (s_J k1 ?_)))), k2, k3, f0.1.tr k4⟩
    rw [q_M_number_19]
  · rw [if_neg h1]
    refine ⟨_, s_g rfl (s_I (r_knows hz) (s_pf h1 ?_)), h0, wI_m hI f0, f0.1⟩
    rw [q_M_number_16, q_M_number_19]
end XNUM16
