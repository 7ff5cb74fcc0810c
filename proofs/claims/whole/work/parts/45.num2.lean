/-! ===== NUMBERS, 2 (own work): the ways evaluated, packed into one number, digits of 256 bits ===== -/
def oU : Nat → (Nat → Nat) → (Nat → Nat) → Nat → Nat
  | 0, _, X1, _ => X1 0
  | m + 1, X0, X1, a => if a / 2 ^ m = 0 then oU m X0 (fun x => X0 (2 ^ m + x) + X1 x) (a % 2 ^ m) else oU m (fun x => X0 (2 ^ m + x) + X1 x) (fun x => X1 (2 ^ m + x)) (a % 2 ^ m)
theorem sum_map_add (l : List Nat) (V U : Nat → Nat) : (l.map (fun x => V x + U x)).sum = (l.map V).sum + (l.map U).sum := by
  induction l with
  | nil => rfl
  | cons q l ih => show (V q + U q) + (l.map (fun x => V x + U x)).sum = (V q + (l.map V).sum) + (U q + (l.map U).sum); rw [ih]; omega
theorem sm_add (m a h : Nat) (V U : Nat → Nat) : sm m a h (fun x => V x + U x) = sm m a h V + sm m a h U := by
  rw [sm_fl, sm_fl, sm_fl, sum_map_add]
theorem oU_sm (m : Nat) : ∀ X0 X1 a, oU m X0 X1 a = sm m a 0 X0 + sm m a 1 X1 := by
  induction m with
  | zero => intro X0 X1 a; unfold oU sm; rw [if_neg (by decide), if_pos rfl, Nat.zero_add]
  | succ m ih =>
    intro X0 X1 a
    unfold oU sm
    by_cases e : a / 2 ^ m = 0
    · rw [if_pos e, if_pos e, if_pos e, ih, sm_add, if_pos rfl, if_neg (by decide)]; omega
    · rw [if_neg e, if_neg e, if_neg e, ih, sm_add, if_neg (by decide), if_pos rfl]; omega
/-- the packed number -/
def pq (B : Nat) (V : Nat → Nat) : Nat → Nat
  | 0 => 0
  | k + 1 => pq B V k + V k * B ^ k
theorem pq_congr {B : Nat} {V U : Nat → Nat} {k : Nat} (h : ∀ x, x < k → V x = U x) : pq B V k = pq B U k := by
  induction k with
  | zero => rfl
  | succ k ih => show pq B V k + V k * B ^ k = pq B U k + U k * B ^ k; rw [ih (fun x hx => h x (by omega)), h k (by omega)]
theorem pq_lt {B : Nat} {V : Nat → Nat} {k : Nat} (h : ∀ x, x < k → V x < B) : pq B V k < B ^ k := by
  induction k with
  | zero => exact Nat.one_pos
  | succ k ih =>
    have h1 := ih (fun x hx => h x (by omega))
    have h2 : V k * B ^ k ≤ (B - 1) * B ^ k := Nat.mul_le_mul_right _ (by have := h k (by omega); omega)
    have h3 : B ^ (k + 1) = (B - 1) * B ^ k + B ^ k := by
      rw [Nat.pow_succ, Nat.mul_comm, ← Nat.succ_mul]
      congr 1
      have := h k (by omega)
      omega
    show pq B V k + V k * B ^ k < B ^ (k + 1)
    omega
theorem pq_split (B : Nat) (V : Nat → Nat) (j : Nat) : ∀ k, pq B V (j + k) = pq B V j + B ^ j * pq B (fun x => V (j + x)) k := by
  intro k
  induction k with
  | zero => show pq B V j = pq B V j + B ^ j * 0; rw [Nat.mul_zero, Nat.add_zero]
  | succ k ih =>
    show pq B V (j + k) + V (j + k) * B ^ (j + k) = pq B V j + B ^ j * (pq B (fun x => V (j + x)) k + V (j + k) * B ^ k)
    rw [ih, Nat.mul_add, Nat.pow_add, ← Nat.mul_assoc (B ^ j), Nat.mul_comm (B ^ j) (V (j + k)), Nat.mul_assoc, Nat.add_assoc]
theorem pq_add (B : Nat) (V U : Nat → Nat) (k : Nat) : pq B (fun x => V x + U x) k = pq B V k + pq B U k := by
  induction k with
  | zero => rfl
  | succ k ih =>
    show pq B (fun x => V x + U x) k + (V k + U k) * B ^ k = (pq B V k + V k * B ^ k) + (pq B U k + U k * B ^ k)
    rw [ih, Nat.add_mul]; omega
theorem pq_div {B : Nat} {V : Nat → Nat} {j k : Nat} (hB : 0 < B) (h : ∀ x, x < j → V x < B) : pq B V (j + k) % B ^ j = pq B V j ∧ pq B V (j + k) / B ^ j = pq B (fun x => V (j + x)) k := by
  have hl := pq_lt h
  have hp : 0 < B ^ j := Nat.pow_pos hB
  rw [pq_split]
  exact ⟨by rw [Nat.add_mul_mod_self_left, Nat.mod_eq_of_lt hl], by rw [Nat.add_mul_div_left _ _ hp, Nat.div_eq_of_lt hl, Nat.zero_add]⟩
theorem pq_digit {B : Nat} {V : Nat → Nat} {k : Nat} (hB : 0 < B) (h : ∀ x, x < k → V x < B) {v : Nat} (hv : v < k) : pq B V k / B ^ v % B = V v := by
  obtain ⟨d, rfl⟩ : ∃ d, k = v + (1 + d) := ⟨k - v - 1, by omega⟩
  rw [(pq_div hB (fun x hx => h x (by omega))).2]
  have h1 := (pq_div (B := B) (V := fun x => V (v + x)) (j := 1) (k := d) hB (fun x hx => h (v + x) (by omega))).1
  rw [Nat.pow_one] at h1
  rw [h1]
  show 0 + V (v + 0) * B ^ 0 = V v
  rw [Nat.pow_zero, Nat.mul_one, Nat.zero_add, Nat.add_zero]
noncomputable def outP (B : Nat) (m : Nat) : Nat → Nat → Nat := Nat.rec (motive := fun _ => Nat → Nat → Nat) (fun _ P1 => P1) (fun m ih P0 P1 => ih (P0 % B ^ (2 ^ m)) (P0 / B ^ (2 ^ m) + P1 % B ^ (2 ^ m)) + B ^ (2 ^ m) * ih (P0 / B ^ (2 ^ m) + P1 % B ^ (2 ^ m)) (P1 / B ^ (2 ^ m))) m
theorem outP_s (B m P0 P1 : Nat) : outP B (m + 1) P0 P1 = outP B m (P0 % B ^ (2 ^ m)) (P0 / B ^ (2 ^ m) + P1 % B ^ (2 ^ m)) + B ^ (2 ^ m) * outP B m (P0 / B ^ (2 ^ m) + P1 % B ^ (2 ^ m)) (P1 / B ^ (2 ^ m)) := rfl
theorem oU_bd (m : Nat) : ∀ X0 X1 a M, (∀ x, x < 2 ^ m → X0 x ≤ M ∧ X1 x ≤ M) → a < 2 ^ m → oU m X0 X1 a ≤ 2 ^ m * M := by
  induction m with
  | zero =>
    intro X0 X1 a M h ha
    unfold oU
    have := (h 0 Nat.one_pos).2
    rw [Nat.pow_zero, Nat.one_mul]; exact this
  | succ m ih =>
    intro X0 X1 a M h ha
    have hm := Nat.mod_lt a (pow_pos2 m)
    rw [Nat.pow_succ] at h
    rw [Nat.pow_succ, Nat.mul_assoc]
    unfold oU
    have g0 : ∀ x, x < 2 ^ m → X0 (2 ^ m + x) + X1 x ≤ 2 * M := fun x hx => by have := (h (2 ^ m + x) (by omega)).1; have := (h x (by omega)).2; omega
    split
    · exact ih _ _ _ (2 * M) (fun x hx => ⟨by have := (h x (by omega)).1; omega, g0 x hx⟩) hm
    · exact ih _ _ _ (2 * M) (fun x hx => ⟨g0 x hx, by have := (h (2 ^ m + x) (by omega)).2; omega⟩) hm
theorem outP_pq {B : Nat} (hB : 0 < B) (m : Nat) : ∀ X0 X1 M, (∀ x, x < 2 ^ m → X0 x ≤ M ∧ X1 x ≤ M) → 2 ^ m * M < B → outP B m (pq B X0 (2 ^ m)) (pq B X1 (2 ^ m)) = pq B (oU m X0 X1) (2 ^ m) := by
  induction m with
  | zero =>
    intro X0 X1 M h hM
    show pq B X1 1 = pq B (oU 0 X0 X1) 1
    exact pq_congr (fun x hx => by rw [show x = 0 by omega]; rfl)
  | succ m ih =>
    intro X0 X1 M h hM
    have hp := pow_pos2 m
    rw [Nat.pow_succ] at h
    have hM2 : 2 ^ m * (2 * M) < B := by rw [← Nat.mul_assoc, ← Nat.pow_succ]; exact hM
    have hMB : M < B := by
      have : 1 * M ≤ 2 ^ (m + 1) * M := Nat.mul_le_mul_right _ (pow_pos2 (m + 1))
      omega
    have e2 : 2 ^ (m + 1) = 2 ^ m + 2 ^ m := by rw [Nat.pow_succ]; omega
    have d0 := pq_div (B := B) (V := X0) (j := 2 ^ m) (k := 2 ^ m) hB (fun x hx => by have := (h x (by omega)).1; omega)
    have d1 := pq_div (B := B) (V := X1) (j := 2 ^ m) (k := 2 ^ m) hB (fun x hx => by have := (h x (by omega)).2; omega)
    have g0 : ∀ x, x < 2 ^ m → X0 (2 ^ m + x) + X1 x ≤ 2 * M := fun x hx => by have := (h (2 ^ m + x) (by omega)).1; have := (h x (by omega)).2; omega
    rw [outP_s, e2, d0.1, d0.2, d1.1, d1.2, ← pq_add, ih _ _ (2 * M) (fun x hx => ⟨by have := (h x (by omega)).1; omega, g0 x hx⟩) hM2, ih _ _ (2 * M) (fun x hx => ⟨g0 x hx, by have := (h (2 ^ m + x) (by omega)).2; omega⟩) hM2, pq_split B (oU (m + 1) X0 X1) (2 ^ m) (2 ^ m)]
    congr 1
    · exact pq_congr (fun x hx => by
        have t := top_lo hx
        show _ = if x / 2 ^ m = 0 then oU m X0 (fun x => X0 (2 ^ m + x) + X1 x) (x % 2 ^ m) else oU m (fun x => X0 (2 ^ m + x) + X1 x) (fun x => X1 (2 ^ m + x)) (x % 2 ^ m)
        rw [t.1, t.2, if_pos rfl])
    · congr 1
      exact pq_congr (fun x hx => by
        have t := top_hi hx
        show _ = if (2 ^ m + x) / 2 ^ m = 0 then oU m X0 (fun x => X0 (2 ^ m + x) + X1 x) ((2 ^ m + x) % 2 ^ m) else oU m (fun x => X0 (2 ^ m + x) + X1 x) (fun x => X1 (2 ^ m + x)) ((2 ^ m + x) % 2 ^ m)
        rw [t.1, t.2, if_neg (by decide)])
/-- level by level: V k v, the ways of v if it has n - k columns -/
def lv (n : Nat) : Nat → Nat → Nat
  | 0, v => if v = 2 ^ n - 1 then 1 else 0
  | k + 1, v => sm n v 0 (lv n k)
theorem lv_bd (n : Nat) : ∀ k v, v < 2 ^ n → lv n k v ≤ (2 ^ n) ^ k := by
  intro k
  induction k with
  | zero => intro v hv; unfold lv; rw [Nat.pow_zero]; split <;> omega
  | succ k ih =>
    intro v hv
    have h1 := oU_bd n (lv n k) (fun _ => 0) v ((2 ^ n) ^ k) (fun x hx => ⟨ih x hx, Nat.zero_le _⟩) hv
    rw [oU_sm] at h1
    rw [Nat.pow_succ, Nat.mul_comm]
    show sm n v 0 (lv n k) ≤ _
    omega
theorem lv_wy (n : Nat) : ∀ k v, v < 2 ^ n → pop n v + k = n → lv n k v = wy n v := by
  intro k
  induction k with
  | zero =>
    intro v hv hp
    have h := (pop_full n v hv).mp (by omega)
    rw [wy_eq hv, if_pos h]
    unfold lv
    rw [if_pos h]
  | succ k ih =>
    intro v hv hp
    have h : ¬ v = 2 ^ n - 1 := fun q => by have := (pop_full n v hv).mpr q; omega
    rw [wy_eq hv, if_neg h]
    show sm n v 0 (lv n k) = _
    rw [sm_fl]
    exact sum_map_congr (fun x hx => by
      have h3 := fl_pop n v 0 x hv (by omega) hx
      exact ih x (fl_lt n v 0 x hx) (by omega))
noncomputable def lvP (B n : Nat) (k : Nat) : Nat := Nat.rec (motive := fun _ => Nat) (B ^ (2 ^ n - 1)) (fun _ P => outP B n P 0) k
theorem pq_zero (B k : Nat) : pq B (fun _ => 0) k = 0 := by
  induction k with
  | zero => rfl
  | succ k ih => show pq B (fun _ => 0) k + 0 * B ^ k = 0; rw [ih, Nat.zero_mul]
theorem pq_unit (B v : Nat) : ∀ k, v < k → pq B (fun x => if x = v then 1 else 0) k = B ^ v := by
  intro k
  induction k with
  | zero => intro h; exact absurd h (Nat.not_lt_zero _)
  | succ k ih =>
    intro h
    show pq B (fun x => if x = v then 1 else 0) k + (if k = v then 1 else 0) * B ^ k = B ^ v
    by_cases e : k = v
    · rw [if_pos e, Nat.one_mul, pq_congr (U := fun _ => 0) (fun x hx => if_neg (by omega)), pq_zero, e, Nat.zero_add]
    · rw [if_neg e, Nat.zero_mul, Nat.add_zero]; exact ih (by omega)
theorem lvP_pq {B n : Nat} (hB : 0 < B) : ∀ k, (2 ^ n) ^ (k + 1) < B → lvP B n k = pq B (lv n k) (2 ^ n) := by
  intro k
  induction k with
  | zero =>
    intro _
    have hp := pow_pos2 n
    exact (pq_unit B (2 ^ n - 1) (2 ^ n) (by omega)).symm
  | succ k ih =>
    intro h
    have hle : (2 ^ n) ^ (k + 1) ≤ (2 ^ n) ^ (k + 1 + 1) := Nat.pow_le_pow_right (pow_pos2 n) (by omega)
    show outP B n (lvP B n k) 0 = _
    rw [ih (by omega), ← pq_zero B (2 ^ n), outP_pq hB n (lv n k) (fun _ => 0) ((2 ^ n) ^ k) (fun x hx => ⟨lv_bd n k x hx, Nat.zero_le _⟩) (by have e : 2 ^ n * (2 ^ n) ^ k = (2 ^ n) ^ (k + 1) := Nat.pow_succ'.symm; omega)]
    exact pq_congr (fun x hx => by
      rw [oU_sm]
      show sm n x 0 (lv n k) + sm n x 1 (fun _ => 0) = sm n x 0 (lv n k)
      have z : sm n x 1 (fun _ => 0) = 0 := by
        rw [sm_fl]
        have : ∀ l : List Nat, (l.map (fun _ => 0)).sum = 0 := fun l => by
          induction l with
          | nil => rfl
          | cons q l ih => show 0 + (l.map (fun _ => 0)).sum = 0; rw [ih]
        exact this _
      rw [z]; rfl)
theorem lvP_at {B n k v : Nat} (hB : 0 < B) (h : (2 ^ n) ^ (k + 1) < B) (hv : v < 2 ^ n) : lvP B n k / B ^ v % B = lv n k v := by
  rw [lvP_pq hB k h]
  have hle : (2 ^ n) ^ k ≤ (2 ^ n) ^ (k + 1) := Nat.pow_le_pow_right (pow_pos2 n) (by omega)
  exact pq_digit hB (fun x hx => by have := lv_bd n k x hx; omega) hv
