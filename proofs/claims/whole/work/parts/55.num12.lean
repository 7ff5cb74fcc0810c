/-! ===== NUMBERS, 12 (own work): bounds; the table of a number ===== -/
theorem fl_self (m : Nat) : ∀ y, y < 2 ^ m → y ∈ fl m y 1 := by
  induction m with
  | zero => intro y hy; have : y < 1 := hy; unfold fl; rw [if_pos rfl, show y = 0 by omega]; exact List.mem_singleton.mpr rfl
  | succ m ih =>
    intro y hy
    unfold fl
    rcases top_cases hy with q | q
    · rw [if_pos q.1, if_neg (by decide), List.nil_append, (top_lo q.2).2]
      exact ih y q.2
    · rw [if_neg (by omega)]
      refine List.mem_append.mpr (Or.inl (List.mem_map.mpr ⟨y % 2 ^ m, ih _ (Nat.mod_lt _ (pow_pos2 m)), q.2.symm⟩))
theorem fl_pred (m : Nat) : ∀ v, v < 2 ^ m → v ≠ 0 → ∃ u, u < 2 ^ m ∧ v ∈ fl m u 0 := by
  induction m with
  | zero => intro v hv h0; have : v < 1 := hv; omega
  | succ m ih =>
    intro v hv h0
    have hp := pow_pos2 m
    rcases top_cases hv with q | q
    · obtain ⟨u, h1, h2⟩ := ih v q.2 h0
      refine ⟨u, by rw [Nat.pow_succ]; omega, ?_⟩
      unfold fl
      rw [if_pos (top_lo h1).1, (top_lo h1).2]
      exact List.mem_append.mpr (Or.inr h2)
    · have hm := Nat.mod_lt v hp
      refine ⟨v % 2 ^ m, by rw [Nat.pow_succ]; omega, ?_⟩
      unfold fl
      rw [if_pos (top_lo hm).1, (top_lo hm).2, if_pos rfl]
      exact List.mem_append.mpr (Or.inl (List.mem_map.mpr ⟨v % 2 ^ m, fl_self m _ hm, q.2.symm⟩))
theorem le_sum {l : List Nat} {f : Nat → Nat} {x : Nat} (h : x ∈ l) : f x ≤ (l.map f).sum := by
  induction l with
  | nil => cases h
  | cons y l ih =>
    show f x ≤ f y + (l.map f).sum
    rcases List.mem_cons.mp h with q | q
    · rw [q]; omega
    · have := ih q; omega
theorem wy_le {n : Nat} : ∀ k v, v < 2 ^ n → pop n v = k → wy n v ≤ wy n 0 := by
  intro k
  induction k with
  | zero =>
    intro v hv hp
    by_cases e : v = 0
    · rw [e]; exact Nat.le_refl _
    · obtain ⟨u, h1, h2⟩ := fl_pred n v hv e
      have := fl_pop n u 0 v h1 (by omega) h2
      omega
  | succ k ih =>
    intro v hv hp
    by_cases e : v = 0
    · rw [e]; exact Nat.le_refl _
    · obtain ⟨u, h1, h2⟩ := fl_pred n v hv e
      have h3 := fl_pop n u 0 v h1 (by omega) h2
      have h4 := pop_le n v hv
      have h5 : ¬ u = 2 ^ n - 1 := fun q => by have := (pop_full n u h1).mpr q; omega
      have h6 := ih u h1 (by omega)
      have h7 := le_sum (f := wy n) h2
      rw [wy_eq h1, if_neg h5] at h6
      omega
theorem fl_z1 (m : Nat) : fl m 0 1 = [0] := by
  induction m with
  | zero => rfl
  | succ m ih => unfold fl; rw [Nat.zero_div, Nat.zero_mod, if_pos rfl, if_neg (by decide), ih]; rfl
theorem fl_z0 (m : Nat) : fl m 0 0 = (List.range m).map (fun c => 2 ^ (m - 1 - c)) := by
  induction m with
  | zero => rfl
  | succ m ih =>
    unfold fl
    rw [Nat.zero_div, Nat.zero_mod, if_pos rfl, if_pos rfl, fl_z1, ih]
    have e : (List.range (m + 1)).map (fun c => 2 ^ (m + 1 - 1 - c)) = 2 ^ m :: (List.range m).map (fun c => 2 ^ (m - 1 - c)) := by
      rw [List.range_succ_eq_map]
      show 2 ^ (m + 1 - 1 - 0) :: List.map _ (List.map _ _) = _
      rw [List.map_map, show m + 1 - 1 - 0 = m by omega]
      congr 1
      exact List.map_congr_left (fun c hc => by show 2 ^ (m + 1 - 1 - (c + 1)) = 2 ^ (m - 1 - c); congr 1; omega)
    rw [e]
    rfl
theorem sum_range (f : Nat → Nat) (n : Nat) : ((List.range n).map f).sum = sumN f n := by
  induction n with
  | zero => rfl
  | succ n ih =>
    rw [List.range_succ, List.map_append, List.sum_append, ih]
    show sumN f n + (f n + 0) = sumN f n + f n
    omega
theorem wy_zero {n : Nat} (h1 : 1 ≤ n) (h2 : n ≤ 13) : ((wy n 0 : Nat) : Int) = xsl n := by
  have p2 : (2 : Nat) ^ 1 ≤ 2 ^ n := Nat.pow_le_pow_right (by decide) h1
  rw [Nat.pow_one] at p2
  rw [← xsl_sum n (by omega) h1, wy_eq (by omega), if_neg (by omega), fl_z0, List.map_map, sum_range]
  congr 1
  exact sumN_congr (fun c hc => wy_first h1 h2 hc)
theorem xsl_bd : ∀ n, n < 14 → 1 ≤ n → 0 ≤ xsl n ∧ xsl n < 9223372036854775808 := by decide
theorem wy_bd {n v : Nat} (h1 : 1 ≤ n) (h2 : n ≤ 13) (hv : v < 2 ^ n) : ((wy n v : Nat) : Int) < 9223372036854775808 := by
  have := wy_le _ v hv rfl
  have := wy_zero h1 h2
  have := xsl_bd n (by omega) h1
  omega
/-- the row in whose ways l lies, and what is left -/
def sel (n : Nat) : List Nat → Nat → Nat × Nat
  | [], l => (0, l)
  | x :: F, l => if l < wy n x then (x, l) else sel n F (l - wy n x)
theorem sel_ok (n : Nat) : ∀ F l, l < (F.map (wy n)).sum → (sel n F l).1 ∈ F ∧ (sel n F l).2 < wy n (sel n F l).1 ∧ (sel n F l).2 ≤ l := by
  intro F
  induction F with
  | nil => intro l h; exact absurd h (Nat.not_lt_zero _)
  | cons x F ih =>
    intro l h
    have h' : l < wy n x + (F.map (wy n)).sum := h
    unfold sel
    by_cases q : l < wy n x
    · rw [if_pos q]; exact ⟨List.mem_cons_self, q, Nat.le_refl _⟩
    · rw [if_neg q]
      obtain ⟨a1, a2, a3⟩ := ih (l - wy n x) (by omega)
      exact ⟨List.mem_cons_of_mem _ a1, a2, by omega⟩
def rsq (n N : Nat) : Nat → Nat × Nat
  | 0 => (0, N)
  | i + 1 => sel n (fl n (rsq n N i).1 0) (rsq n N i).2
theorem rsq_ok {n N : Nat} (hn : 1 ≤ n) (hN : N < wy n 0) : ∀ i, i ≤ n → (rsq n N i).1 < 2 ^ n ∧ pop n (rsq n N i).1 = i ∧ (rsq n N i).2 < wy n (rsq n N i).1 := by
  intro i
  induction i with
  | zero => intro _; exact ⟨pow_pos2 n, pop_zero n, hN⟩
  | succ i ih =>
    intro hi
    obtain ⟨a1, a2, a3⟩ := ih (by omega)
    have hne : ¬ (rsq n N i).1 = 2 ^ n - 1 := fun q => by have := (pop_full n _ a1).mpr q; omega
    rw [wy_eq a1, if_neg hne] at a3
    obtain ⟨b1, b2, b3⟩ := sel_ok n _ _ a3
    refine ⟨fl_lt n _ 0 _ b1, ?_, b2⟩
    have := fl_pop n _ 0 _ a1 (by omega) b1
    show pop n (sel n (fl n (rsq n N i).1 0) (rsq n N i).2).1 = i + 1
    omega
theorem rsq_in {n N : Nat} (hn : 1 ≤ n) (hN : N < wy n 0) {i : Nat} (hi : i < n) : (rsq n N (i + 1)).1 ∈ fl n (rsq n N i).1 0 := by
  obtain ⟨a1, a2, a3⟩ := rsq_ok hn hN i (by omega)
  have hne : ¬ (rsq n N i).1 = 2 ^ n - 1 := fun q => by have := (pop_full n _ a1).mpr q; omega
  rw [wy_eq a1, if_neg hne] at a3
  exact (sel_ok n _ _ a3).1
/-! prefixes -/
theorem bt_top {m x : Nat} (hx : x < 2 ^ (m + 1)) : bt (m + 1) x 0 = ((x / 2 ^ m : Nat) : Int) := by
  unfold bt
  rw [show m + 1 - 1 - 0 = m by omega]
  rcases top_cases hx with q | q
  · rw [q.1]
  · rw [q.1]
theorem bt_low {m x : Nat} (hx : x < 2 ^ (m + 1)) {k : Nat} (hk : k < m) : bt (m + 1) x (k + 1) = bt m (x % 2 ^ m) k := by
  unfold bt
  rw [show m + 1 - 1 - (k + 1) = m - 1 - k by omega]
  congr 1
  rcases top_cases hx with q | q
  · rw [(top_lo q.2).2]
  · have e : 2 ^ m = 2 ^ (m - 1 - k) * (2 * 2 ^ k) := by
      rw [← Nat.pow_succ', ← Nat.pow_add]; congr 1; omega
    have e2 : x = 2 ^ (m - 1 - k) * (2 * 2 ^ k) + x % 2 ^ m := by rw [← e]; exact q.2
    have e3 : x / 2 ^ (m - 1 - k) = 2 * 2 ^ k + x % 2 ^ m / 2 ^ (m - 1 - k) := by
      have h := Nat.mul_add_div (pow_pos2 (m - 1 - k)) (2 * 2 ^ k) (x % 2 ^ m)
      rw [← e2] at h
      exact h
    rw [e3]; omega
theorem pref_s {m x : Nat} (hx : x < 2 ^ (m + 1)) : ∀ c, c ≤ m → sumF (bt (m + 1) x) (c + 1) = ((x / 2 ^ m : Nat) : Int) + sumF (bt m (x % 2 ^ m)) c := by
  intro c
  induction c with
  | zero => intro _; show 0 + bt (m + 1) x 0 = _ + 0; rw [bt_top hx]; omega
  | succ c ih =>
    intro hc
    show sumF (bt (m + 1) x) (c + 1) + bt (m + 1) x (c + 1) = _ + (sumF (bt m (x % 2 ^ m)) c + bt m (x % 2 ^ m) c)
    rw [ih (by omega), bt_low hx (by omega)]; omega
theorem fl_pref (m : Nat) : ∀ a h x, a < 2 ^ m → h ≤ 1 → x ∈ fl m a h → ∀ c, c ≤ m → 0 ≤ (h : Int) + sumF (bt m x) c - sumF (bt m a) c ∧ (h : Int) + sumF (bt m x) c - sumF (bt m a) c ≤ 1 := by
  induction m with
  | zero =>
    intro a h x ha hh hx c hc
    rw [show c = 0 by omega]
    show 0 ≤ (h : Int) + 0 - 0 ∧ (h : Int) + 0 - 0 ≤ 1
    omega
  | succ m ih =>
    intro a h x ha hh hx c hc
    have hxl := fl_lt _ _ _ x hx
    have ham := Nat.mod_lt a (pow_pos2 m)
    cases c with
    | zero =>
      show 0 ≤ (h : Int) + 0 - 0 ∧ (h : Int) + 0 - 0 ≤ 1
      omega
    | succ c =>
      rw [pref_s hxl c (by omega), pref_s ha c (by omega)]
      unfold fl at hx
      rcases top_cases ha with q | q
      · rw [if_pos q.1] at hx
        rw [q.1]
        rcases List.mem_append.mp hx with z | z
        · split at z
          · obtain ⟨y, hy, rfl⟩ := List.mem_map.mp z
            have t := top_hi (fl_lt _ _ _ y hy)
            have := ih _ 1 y ham (by omega) hy c (by omega)
            rw [t.1, t.2]; omega
          · cases z
        · have t := top_lo (fl_lt _ _ _ x z)
          have := ih _ h x ham hh z c (by omega)
          rw [t.1, t.2]; omega
      · rw [if_neg (by omega)] at hx
        rw [q.1]
        rcases List.mem_append.mp hx with z | z
        · obtain ⟨y, hy, rfl⟩ := List.mem_map.mp z
          have t := top_hi (fl_lt _ _ _ y hy)
          have := ih _ h y ham hh hy c (by omega)
          rw [t.1, t.2]; omega
        · split at z
          · have t := top_lo (fl_lt _ _ _ x z)
            have := ih _ 0 x ham (by omega) z c (by omega)
            rw [t.1, t.2]; omega
          · cases z
theorem pref_pop (m : Nat) : ∀ x, x < 2 ^ m → sumF (bt m x) m = ((pop m x : Nat) : Int) := by
  induction m with
  | zero => intro x _; rfl
  | succ m ih =>
    intro x hx
    rw [pref_s hx m (Nat.le_refl _), ih _ (Nat.mod_lt _ (pow_pos2 m))]
    show _ = ((x / 2 ^ m + pop m (x % 2 ^ m) : Nat) : Int)
    rw [Int.natCast_add]
theorem bt_01 (m x k : Nat) : bt m x k = 0 ∨ bt m x k = 1 := by unfold bt; omega
theorem pref_full (m : Nat) : ∀ c, c ≤ m → sumF (bt m (2 ^ m - 1)) c = c := by
  induction m with
  | zero => intro c hc; rw [show c = 0 by omega]; rfl
  | succ m ih =>
    intro c hc
    have hp := pow_pos2 m
    have e : 2 ^ (m + 1) - 1 = 2 ^ m + (2 ^ m - 1) := by rw [Nat.pow_succ]; omega
    have t := top_hi (m := m) (x := 2 ^ m - 1) (by omega)
    cases c with
    | zero => rfl
    | succ c => rw [pref_s (by omega) c (by omega), e, t.1, t.2, ih c (by omega)]; omega
def buC (n N i c : Nat) : Int := sumF (bt n (rsq n N i).1) c
theorem asm_bu {n N : Nat} (hn : 1 ≤ n) (hN : N < wy n 0) : asm n (buC n N) := by
  refine ⟨fun c hc => ?_, fun i _ => rfl, fun c hc => ?_, fun i hi => ?_, fun i c hi hc => ?_, fun i c hi hc => ?_⟩
  · refine sumF_zero (fun k _ => ?_)
    show bt n 0 k = 0
    unfold bt
    rw [Nat.zero_div]; rfl
  · obtain ⟨a1, a2, a3⟩ := rsq_ok hn hN n (Nat.le_refl _)
    have := (pop_full n _ a1).mp a2
    show sumF (bt n (rsq n N n).1) c = c
    rw [this, pref_full n c hc]
  · obtain ⟨a1, a2, a3⟩ := rsq_ok hn hN i hi
    show sumF (bt n (rsq n N i).1) n = i
    rw [pref_pop n _ a1, a2]
  · obtain ⟨a1, a2, a3⟩ := rsq_ok hn hN i (by omega)
    have := fl_pref n _ 0 _ a1 (by omega) (rsq_in hn hN hi) c hc
    show sumF (bt n (rsq n N i).1) c ≤ sumF (bt n (rsq n N (i + 1)).1) c ∧ sumF (bt n (rsq n N (i + 1)).1) c ≤ sumF (bt n (rsq n N i).1) c + 1
    omega
  · have := bt_01 n (rsq n N i).1 c
    show sumF (bt n (rsq n N i).1) c ≤ sumF (bt n (rsq n N i).1) c + bt n (rsq n N i).1 c ∧ sumF (bt n (rsq n N i).1) c + bt n (rsq n N i).1 c ≤ sumF (bt n (rsq n N i).1) c + 1
    omega
