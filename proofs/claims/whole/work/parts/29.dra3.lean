/-! ===== THE DRAFT, 3 (own work): a draft without fault tells a table; bits of its rows ===== -/
def vOf (u : Nat → Nat) : Nat → Nat
  | 0 => 0
  | k + 1 => 2 * vOf u k + u k
theorem vOf_congr {u v : Nat → Nat} {n : Nat} (h : ∀ k, k < n → u k = v k) : vOf u n = vOf v n := by
  induction n with
  | zero => rfl
  | succ n ih => show 2 * vOf u n + u n = 2 * vOf v n + v n; rw [ih (fun k hk => h k (by omega)), h n (by omega)]
theorem vOf_lt {u : Nat → Nat} {n : Nat} (h : ∀ k, k < n → u k ≤ 1) : vOf u n < 2 ^ n := by
  induction n with
  | zero => exact Nat.one_pos
  | succ n ih =>
    have h1 := ih (fun k hk => h k (by omega))
    have h2 := h n (by omega)
    show 2 * vOf u n + u n < 2 ^ (n + 1)
    rw [Nat.pow_succ]; omega
theorem vOf_digit {u : Nat → Nat} {n k : Nat} (h : ∀ k, k < n → u k ≤ 1) (hk : k < n) : vOf u n / 2 ^ (n - 1 - k) % 2 = u k := by
  induction n with
  | zero => exact absurd hk (Nat.not_lt_zero _)
  | succ n ih =>
    have h2 := h n (by omega)
    show (2 * vOf u n + u n) / 2 ^ (n + 1 - 1 - k) % 2 = u k
    by_cases e : k = n
    · subst e
      rw [show k + 1 - 1 - k = 0 by omega, Nat.pow_zero, Nat.div_one]; omega
    · rw [show n + 1 - 1 - k = (n - 1 - k) + 1 by omega, Nat.pow_succ, Nat.mul_comm (2 ^ (n - 1 - k)) 2, ← Nat.div_div_eq_div_mul, show (2 * vOf u n + u n) / 2 = vOf u n by omega]
      exact ih (fun k hk => h k (by omega)) (by omega)
theorem vOf_set {u : Nat → Nat} {n p : Nat} (hp : p < n) (h0 : u p = 0) : vOf (fun k => if k = p then 1 else u k) n = vOf u n + 2 ^ (n - 1 - p) := by
  induction n with
  | zero => exact absurd hp (Nat.not_lt_zero _)
  | succ n ih =>
    show 2 * vOf (fun k => if k = p then 1 else u k) n + (if n = p then 1 else u n) = 2 * vOf u n + u n + 2 ^ (n + 1 - 1 - p)
    by_cases e : n = p
    · subst e
      rw [if_pos rfl, vOf_congr (v := u) (fun k hk => by rw [if_neg (by omega)]), show n + 1 - 1 - n = 0 by omega, Nat.pow_zero]; omega
    · rw [if_neg e, ih (by omega), show n + 1 - 1 - p = (n - 1 - p) + 1 by omega, Nat.pow_succ]; omega
def inR (f : Nat → Int) (j : Nat) : Nat → Nat
  | 0 => 0
  | k + 1 => if f k = j then 1 else inR f j k
theorem inR_no {f : Nat → Int} {j k : Nat} (h : ∀ q, q < k → f q ≠ j) : inR f j k = 0 := by
  induction k with
  | zero => rfl
  | succ k ih => show (if f k = j then 1 else inR f j k) = 0; rw [if_neg (h k (by omega)), ih (fun q hq => h q (by omega))]
theorem inR_le (f : Nat → Int) (j k : Nat) : inR f j k ≤ 1 := by
  induction k with
  | zero => exact Nat.zero_le _
  | succ k ih => show (if f k = j then 1 else inR f j k) ≤ 1; split <;> omega
theorem exMin {P : Nat → Prop} : (∃ n, P n) → ∃ n, P n ∧ ∀ m, m < n → ¬ P m := by
  intro ⟨n, hn⟩
  induction n using Nat.strongRecOn with
  | ind n ih =>
    by_cases h : ∃ m, m < n ∧ P m
    · obtain ⟨m, hm, hp⟩ := h
      exact ih m hm hp
    · exact ⟨n, hn, fun m hm hp => h ⟨m, hm, hp⟩⟩
theorem frst_no {p : Nat → Nat → Prop} (h : frst p = none) : ∀ r c, ¬ p r c := by
  intro r c hp
  obtain ⟨i, ⟨c1, h1⟩, h2⟩ := exMin (P := fun r => ∃ c, p r c) ⟨r, c, hp⟩
  obtain ⟨j, h3, h4⟩ := exMin (P := fun c => p i c) ⟨c1, h1⟩
  have hF : isF p (i, j) := ⟨h3, fun r c hr q => by
    rcases hr with z | ⟨z1, z2⟩
    · exact h2 r z ⟨c, q⟩
    · dsimp only at z1; subst z1; exact h4 c z2 q⟩
  rw [frst_some hF] at h
  cases h
noncomputable def takeC (s : Nat) (d : Nat → Int) (i j : Nat) : Int := match s with
  | 0 => sumF (fun r => sumF (fun c => d (r * 11 + c)) j) i
  | 1 => d (i * 11 + j)
  | _ => sumF (fun k => if d (i * 11 + k) < j then 1 else 0) i
def uD (s : Nat) (d : Nat → Int) (i j : Nat) : Nat := match s with
  | 0 => (sumF (fun r => d (r * 11 + j)) i).toNat
  | 1 => (d (i * 11 + (j + 1)) - d (i * 11 + j)).toNat
  | _ => inR (fun q => d (i * 11 + q)) j i
theorem fault0 {n : Nat} {d : Nat → Int} (h : faultL n d = 0) : (∀ i, i < n → altP (fun k => d (i * 11 + k)) n) ∧ ∀ j, j < n → altP (fun k => d (k * 11 + j)) n := by
  unfold faultL at h
  split at h
  · omega
  · rename_i h1
    split at h
    · omega
    · rename_i h2
      refine ⟨fun i hi => ?_, fun j hj => ?_⟩
      · have := firstN_no (p := fun i => !altB (fun k => d (i * 11 + k)) n) (n := n) (k := i) (by omega)
        exact altB_iff.mp (by simpa using this)
      · have := firstN_no (p := fun j => !altB (fun k => d (k * 11 + j)) n) (n := n) (k := j) (by omega)
        exact altB_iff.mp (by simpa using this)
theorem fault12 {s n : Nat} {d : Nat → Int} (h : faultC s n d = 0) : ∀ i j, ¬ cellBad s n d i j := by
  unfold faultC at h
  cases hf : frst (cellBad s n d) with
  | none => exact frst_no hf
  | some q => rw [hf] at h; dsimp only at h; omega
theorem asm_t0 {n : Nat} {d : Nat → Int} (h : faultL n d = 0) : asm n (takeC 0 d) := by
  obtain ⟨hr, hc⟩ := fault0 h
  have row : ∀ i, i < n → ∀ j, j ≤ n → 0 ≤ sumF (fun c => d (i * 11 + c)) j ∧ sumF (fun c => d (i * 11 + c)) j ≤ 1 := fun i hi j hj => altP_pre (hr i hi).1 hj
  have col : ∀ j, j < n → ∀ i, i ≤ n → 0 ≤ sumF (fun r => d (r * 11 + j)) i ∧ sumF (fun r => d (r * 11 + j)) i ≤ 1 := fun j hj i hi => altP_pre (hc j hj).1 hi
  have sw : ∀ i j, takeC 0 d i (j + 1) = takeC 0 d i j + sumF (fun r => d (r * 11 + j)) i := fun i j => by
    show sumF (fun r => sumF (fun c => d (r * 11 + c)) j + d (r * 11 + j)) i = _
    rw [sumF_add]; rfl
  refine ⟨fun j _ => rfl, fun i _ => ?_, fun j hj => ?_, fun i hi => ?_, fun i j hi hj => ?_, fun i j hi hj => ?_⟩
  · exact sumF_zero (fun k _ => rfl)
  · induction j with
    | zero => exact sumF_zero (fun k _ => rfl)
    | succ j ih =>
      rw [sw, ih (by omega), (hc j (by omega)).2]; omega
  · induction i with
    | zero => rfl
    | succ i ih =>
      show takeC 0 d i n + sumF (fun c => d (i * 11 + c)) n = _
      rw [ih (by omega), (hr i (by omega)).2]; omega
  · show takeC 0 d i j ≤ takeC 0 d i j + sumF (fun c => d (i * 11 + c)) j ∧ takeC 0 d i j + sumF (fun c => d (i * 11 + c)) j ≤ _
    have := row i hi j hj
    omega
  · rw [sw]
    have := col j hj i hi
    omega
theorem asm_t1 {n : Nat} {d : Nat → Int} (h : ∀ i j, ¬ cellBad 1 n d i j) : asm n (takeC 1 d) := by
  have hk : ∀ i j, i ≤ n → j ≤ n → corOk n d i j := fun i j hi hj => Classical.byContradiction (fun q => h i j ⟨⟨hi, hj⟩, q⟩)
  unfold takeC
  refine ⟨fun j hj => (hk 0 j (by omega) hj).1 (Or.inl rfl), fun i hi => (hk i 0 hi (by omega)).1 (Or.inr rfl), fun j hj => (hk n j (by omega) hj).2.1 rfl, fun i hi => (hk i n hi (by omega)).2.2.1 rfl, fun i j hi hj => ?_, fun i j hi hj => ?_⟩
  · have := (hk (i + 1) j (by omega) hj).2.2.2.1
    rw [show i + 1 - 1 = i by omega] at this
    show d (i * 11 + j) ≤ d ((i + 1) * 11 + j) ∧ d ((i + 1) * 11 + j) ≤ d (i * 11 + j) + 1
    omega
  · have := (hk i (j + 1) hi (by omega)).2.2.2.2
    rw [show j + 1 - 1 = j by omega] at this
    show d (i * 11 + j) ≤ d (i * 11 + (j + 1)) ∧ d (i * 11 + (j + 1)) ≤ d (i * 11 + j) + 1
    omega
/-- how many of the first m are below z, of a rising row -/
theorem cnt_rise {f : Nat → Int} {m : Nat} (hr : ∀ k, k + 1 < m → f k < f (k + 1)) (z : Int) : ∀ k, k ≤ m → (∀ q, q < k → f q < z) → (∀ q, k ≤ q → q < m → z ≤ f q) → sumF (fun q => if f q < z then 1 else 0) m = k := by
  intro k hk h1 h2
  have a1 : ∀ t, t ≤ k → sumF (fun q => if f q < z then 1 else 0) t = t := by
    intro t
    induction t with
    | zero => intro _; rfl
    | succ t ih => intro ht; show sumF (fun q => if f q < z then 1 else 0) t + (if f t < z then 1 else 0) = _; rw [ih (by omega), if_pos (h1 t (by omega))]; omega
  have a2 : ∀ t, k ≤ t → t ≤ m → sumF (fun q => if f q < z then 1 else 0) t = k := by
    intro t
    induction t with
    | zero => intro h3 h4; exact a1 0 (by omega) |>.trans (by omega)
    | succ t ih =>
      intro h3 h4
      by_cases e : k = t + 1
      · rw [← e]; exact a1 k (Nat.le_refl _)
      · show sumF (fun q => if f q < z then 1 else 0) t + (if f t < z then 1 else 0) = _
        rw [ih (by omega) (by omega), if_neg (by have := h2 t (by omega) (by omega); omega)]; omega
  exact a2 m hk (Nat.le_refl _)
theorem rise_lt {f : Nat → Int} {m : Nat} (hr : ∀ k, k + 1 < m → f k < f (k + 1)) : ∀ p q, p < q → q < m → f p < f q := by
  intro p q hpq hq
  induction q with
  | zero => exact absurd hpq (Nat.not_lt_zero _)
  | succ q ih =>
    have h1 := hr q hq
    by_cases e : p = q
    · rw [e]; exact h1
    · have := ih (by omega) (by omega); omega
theorem cnt_at {f : Nat → Int} {m : Nat} (hr : ∀ k, k + 1 < m → f k < f (k + 1)) (z : Int) : ∃ k, k ≤ m ∧ (∀ q, q < k → f q < z) ∧ (∀ q, k ≤ q → q < m → z ≤ f q) ∧ sumF (fun q => if f q < z then 1 else 0) m = k := by
  have hk := firstN_le (fun q => decide (z ≤ f q)) m
  refine ⟨firstN (fun q => decide (z ≤ f q)) m, hk, ?_, ?_, ?_⟩
  · intro q hq
    have := of_decide_eq_false (firstN_no hq); omega
  · intro q h1 h2
    have h3 := of_decide_eq_true (firstN_yes (p := fun q => decide (z ≤ f q)) (n := m) (by omega))
    by_cases e : q = firstN (fun q => decide (z ≤ f q)) m
    · rw [e]; exact h3
    · have := rise_lt hr (firstN (fun q => decide (z ≤ f q)) m) q (by omega) h2; omega
  · refine cnt_rise hr z _ hk (fun q hq => ?_) (fun q h1 h2 => ?_)
    · have := of_decide_eq_false (firstN_no hq); omega
    · have h3 := of_decide_eq_true (firstN_yes (p := fun q => decide (z ≤ f q)) (n := m) (by omega))
      by_cases e : q = firstN (fun q => decide (z ≤ f q)) m
      · rw [e]; exact h3
      · have := rise_lt hr (firstN (fun q => decide (z ≤ f q)) m) q (by omega) h2; omega
theorem cnt_in {f : Nat → Int} {m : Nat} (hr : ∀ k, k + 1 < m → f k < f (k + 1)) (j : Nat) : sumF (fun q => if f q < ((j + 1 : Nat) : Int) then 1 else 0) m = sumF (fun q => if f q < (j : Int) then 1 else 0) m + (inR f j m : Nat) := by
  induction m with
  | zero => rfl
  | succ m ih =>
    show sumF (fun q => if f q < ((j + 1 : Nat) : Int) then 1 else 0) m + (if f m < ((j + 1 : Nat) : Int) then 1 else 0) = sumF (fun q => if f q < (j : Int) then 1 else 0) m + (if f m < (j : Int) then 1 else 0) + ((if f m = j then 1 else inR f j m : Nat) : Int)
    rw [ih (fun k hk => hr k (by omega))]
    by_cases e : f m = j
    · rw [if_pos e, if_pos (by omega), if_neg (by omega), inR_no (fun q hq => by have := rise_lt hr q m hq (Nat.lt_succ_self _); omega)]; omega
    · rw [if_neg e]
      by_cases e2 : f m < (j : Int)
      · rw [if_pos e2, if_pos (by omega)]; omega
      · rw [if_neg e2, if_neg (by omega)]; omega
theorem asm_t2 {n : Nat} {d : Nat → Int} (h : ∀ i j, ¬ cellBad 2 n d i j) : asm n (takeC 2 d) := by
  have hk : ∀ i j, 1 ≤ i → i ≤ n → j < i → colOk n d i j := fun i j h1 h2 h3 => Classical.byContradiction (fun q => h i j ⟨⟨h1, h2, h3⟩, q⟩)
  have rise : ∀ i, i ≤ n → ∀ k, k + 1 < i → d (i * 11 + k) < d (i * 11 + (k + 1)) := fun i hi k hk2 => by
    have := (hk i (k + 1) (by omega) hi hk2).2.1
    rw [show k + 1 - 1 = k by omega] at this
    omega
  have rng : ∀ i k, i ≤ n → k < i → 0 ≤ d (i * 11 + k) ∧ d (i * 11 + k) ≤ (n : Int) - 1 := fun i k hi hk2 => (hk i k (by omega) hi hk2).1
  have low : ∀ i, i ≤ n → ∀ k, k < i → (k : Int) ≤ d (i * 11 + k) := fun i hi k => by
    induction k with
    | zero => intro h2; exact (rng i 0 hi h2).1
    | succ k ih => intro h2; have := ih (by omega); have := rise i hi k h2; omega
  have last : ∀ k, k < n → d (n * 11 + k) = k := by
    have up : ∀ e k, k + e + 1 = n → d (n * 11 + k) ≤ k := by
      intro e
      induction e with
      | zero => intro k hk2; have := (rng n k (Nat.le_refl _) (by omega)).2; omega
      | succ e ih => intro k hk2; have := ih (k + 1) (by omega); have := rise n (Nat.le_refl _) k (by omega); omega
    intro k hk2
    have := up (n - 1 - k) k (by omega)
    have := low n (Nat.le_refl _) k hk2
    omega
  have toC : ∀ i j, takeC 2 d i j = sumF (fun k => if d (i * 11 + k) < (j : Int) then 1 else 0) i := fun i j => rfl
  refine ⟨fun j _ => rfl, fun i hi => ?_, fun j hj => ?_, fun i hi => ?_, fun i j hi hj => ?_, fun i j hi hj => ?_⟩
  · rw [toC]
    exact sumF_zero (fun k hk2 => if_neg (by have := (rng i k hi hk2).1; omega))
  · rw [toC]
    exact cnt_rise (f := fun k => d (n * 11 + k)) (fun k hk2 => rise n (Nat.le_refl _) k hk2) j j hj (fun q hq => by rw [last q (by omega)]; omega) (fun q h1 h2 => by rw [last q h2]; omega)
  · rw [toC]
    exact cnt_rise (f := fun k => d (i * 11 + k)) (fun k hk2 => rise i hi k hk2) n i (Nat.le_refl _) (fun q hq => by have := (rng i q hi hq).2; omega) (fun q h1 h2 => by omega)
  · rw [toC, toC]
    obtain ⟨k, k1, k2, k3, k4⟩ := cnt_at (f := fun k => d (i * 11 + k)) (fun k hk2 => rise i (by omega) k hk2) j
    obtain ⟨t, t1, t2, t3, t4⟩ := cnt_at (f := fun k => d ((i + 1) * 11 + k)) (fun k hk2 => rise (i + 1) (by omega) k hk2) j
    rw [k4, t4]
    have l1 : k ≤ t := by
      rcases Nat.lt_or_ge t k with q | q
      · have g1 := k2 t q
        have g2 := t3 t (Nat.le_refl _) (by omega)
        have g3 := (hk (i + 1) t (by omega) (by omega) (by omega)).2.2
        rw [show i + 1 - 1 = i by omega] at g3
        omega
      · exact q
    have l2 : t ≤ k + 1 := by
      rcases Nat.lt_or_ge (k + 1) t with q | q
      · have g1 := t2 (k + 1) q
        have g2 := k3 k (Nat.le_refl _) (by omega)
        have g3 := (hk (i + 1) (k + 1) (by omega) (by omega) (by omega)).2.2
        rw [show i + 1 - 1 = i by omega, show k + 1 - 1 = k by omega] at g3
        omega
      · exact q
    omega
  · rw [toC, toC, cnt_in (f := fun k => d (i * 11 + k)) (fun k hk2 => rise i hi k hk2) j]
    have := inR_le (fun k => d (i * 11 + k)) j i
    omega
theorem asm_take {s n : Nat} {d : Nat → Int} (hs : s ≤ 2) (h : faultD s n d = 0) : asm n (takeC s d) := by
  unfold faultD at h
  match s, hs with
  | 0, _ => exact asm_t0 h
  | 1, _ => exact asm_t1 (fault12 h)
  | 2, _ => exact asm_t2 (fault12 h)
/-- the bits of a row are what its corner sums rise by -/
theorem uD_take {s n : Nat} {d : Nat → Int} (hs : s ≤ 2) (h : faultD s n d = 0) {i j : Nat} (hi : i ≤ n) (hj : j < n) : takeC s d i (j + 1) - takeC s d i j = (uD s d i j : Nat) := by
  have ha := (asm_take hs h).2.2.2.2.2 i j hi hj
  unfold faultD at h
  match s, hs with
  | 0, _ =>
    have sw : takeC 0 d i (j + 1) = takeC 0 d i j + sumF (fun r => d (r * 11 + j)) i := by
      show sumF (fun r => sumF (fun c => d (r * 11 + c)) j + d (r * 11 + j)) i = _
      rw [sumF_add]; rfl
    rw [sw] at ha ⊢
    show _ = (((sumF (fun r => d (r * 11 + j)) i).toNat : Nat) : Int)
    omega
  | 1, _ =>
    show d (i * 11 + (j + 1)) - d (i * 11 + j) = (((d (i * 11 + (j + 1)) - d (i * 11 + j)).toNat : Nat) : Int)
    have ha : d (i * 11 + j) ≤ d (i * 11 + (j + 1)) ∧ _ := ha
    omega
  | 2, _ =>
    have hb := fault12 h
    have rise : ∀ k, k + 1 < i → d (i * 11 + k) < d (i * 11 + (k + 1)) := fun k hk2 => by
      have := (show colOk n d i (k + 1) from Classical.byContradiction (fun q => hb i (k + 1) ⟨⟨by omega, hi, hk2⟩, q⟩)).2.1
      rw [show k + 1 - 1 = k by omega] at this
      omega
    have := cnt_in (f := fun k => d (i * 11 + k)) rise j
    show sumF (fun k => if d (i * 11 + k) < ((j + 1 : Nat) : Int) then 1 else 0) i - sumF (fun k => if d (i * 11 + k) < (j : Int) then 1 else 0) i = _
    rw [this]
    show _ = ((inR (fun q => d (i * 11 + q)) j i : Nat) : Int)
    omega
theorem uD_le {s n : Nat} {d : Nat → Int} (hs : s ≤ 2) (h : faultD s n d = 0) {i j : Nat} (hi : i ≤ n) (hj : j < n) : uD s d i j ≤ 1 := by
  have h1 := uD_take hs h hi hj
  have h2 := (asm_take hs h).2.2.2.2.2 i j hi hj
  omega
