/-! ===== NUMBERS, 1 (own work): rows that follow a row, ways, over class bits (column 0 the highest of m) ===== -/
/-- the sum of V over the rows that may follow the row a (of m columns), h ahead -/
def sm : Nat → Nat → Nat → (Nat → Nat) → Nat
  | 0, _, h, V => if h = 1 then V 0 else 0
  | m + 1, a, h, V => if a / 2 ^ m = 0 then (if h = 0 then sm m (a % 2 ^ m) 1 (fun x => V (2 ^ m + x)) else 0) + sm m (a % 2 ^ m) h V
    else sm m (a % 2 ^ m) h (fun x => V (2 ^ m + x)) + (if h = 1 then sm m (a % 2 ^ m) 0 V else 0)
/-- the same rows as a list, in the order of the numbers -/
def fl : Nat → Nat → Nat → List Nat
  | 0, _, h => if h = 1 then [0] else []
  | m + 1, a, h => if a / 2 ^ m = 0 then (if h = 0 then (fl m (a % 2 ^ m) 1).map (fun x => 2 ^ m + x) else []) ++ fl m (a % 2 ^ m) h
    else (fl m (a % 2 ^ m) h).map (fun x => 2 ^ m + x) ++ (if h = 1 then fl m (a % 2 ^ m) 0 else [])
def pop : Nat → Nat → Nat
  | 0, _ => 0
  | m + 1, a => a / 2 ^ m + pop m (a % 2 ^ m)
theorem sm_fl (m : Nat) : ∀ a h V, sm m a h V = ((fl m a h).map V).sum := by
  induction m with
  | zero =>
    intro a h V
    unfold sm fl
    by_cases e : h = 1
    · rw [if_pos e, if_pos e]; rfl
    · rw [if_neg e, if_neg e]; rfl
  | succ m ih =>
    intro a h V
    unfold sm fl
    by_cases e : a / 2 ^ m = 0
    · rw [if_pos e, if_pos e, List.map_append, List.sum_append]
      congr 1
      · by_cases e2 : h = 0
        · rw [if_pos e2, if_pos e2, ih, List.map_map]; rfl
        · rw [if_neg e2, if_neg e2]; rfl
      · exact ih _ _ _
    · rw [if_neg e, if_neg e, List.map_append, List.sum_append, ih, List.map_map]
      congr 1
      by_cases e2 : h = 1
      · rw [if_pos e2, if_pos e2, ih]
      · rw [if_neg e2, if_neg e2]; rfl
theorem fl_lt (m : Nat) : ∀ a h x, x ∈ fl m a h → x < 2 ^ m := by
  induction m with
  | zero =>
    intro a h x hx
    unfold fl at hx
    split at hx
    · rw [List.mem_singleton.mp hx]; exact Nat.one_pos
    · cases hx
  | succ m ih =>
    intro a h x hx
    rw [Nat.pow_succ]
    unfold fl at hx
    split at hx
    · rcases List.mem_append.mp hx with q | q
      · split at q
        · obtain ⟨y, hy, rfl⟩ := List.mem_map.mp q
          have := ih _ _ y hy; omega
        · cases q
      · have := ih _ _ x q; omega
    · rcases List.mem_append.mp hx with q | q
      · obtain ⟨y, hy, rfl⟩ := List.mem_map.mp q
        have := ih _ _ y hy; omega
      · split at q
        · have := ih _ _ x q; omega
        · cases q
theorem pow_pos2 (m : Nat) : 0 < 2 ^ m := Nat.two_pow_pos m
theorem top_hi {m x : Nat} (h : x < 2 ^ m) : (2 ^ m + x) / 2 ^ m = 1 ∧ (2 ^ m + x) % 2 ^ m = x := by
  have hp := pow_pos2 m
  refine ⟨?_, ?_⟩
  · rw [Nat.add_div_left x hp, Nat.div_eq_of_lt h]
  · rw [Nat.add_mod_left, Nat.mod_eq_of_lt h]
theorem top_lo {m x : Nat} (h : x < 2 ^ m) : x / 2 ^ m = 0 ∧ x % 2 ^ m = x := ⟨Nat.div_eq_of_lt h, Nat.mod_eq_of_lt h⟩
theorem top_cases {m a : Nat} (h : a < 2 ^ (m + 1)) : (a / 2 ^ m = 0 ∧ a < 2 ^ m) ∨ (a / 2 ^ m = 1 ∧ a = 2 ^ m + a % 2 ^ m) := by
  rw [Nat.pow_succ] at h
  rcases Nat.lt_or_ge a (2 ^ m) with q | q
  · exact Or.inl ⟨Nat.div_eq_of_lt q, q⟩
  · have h1 : a - 2 ^ m < 2 ^ m := by omega
    have h2 := top_hi h1
    rw [show 2 ^ m + (a - 2 ^ m) = a by omega] at h2
    exact Or.inr ⟨h2.1, by omega⟩
theorem fl_pop (m : Nat) : ∀ a h x, a < 2 ^ m → h ≤ 1 → x ∈ fl m a h → pop m x + h = pop m a + 1 := by
  induction m with
  | zero =>
    intro a h x ha hh hx
    unfold fl at hx
    split at hx
    · show 0 + h = 0 + 1; omega
    · cases hx
  | succ m ih =>
    intro a h x ha hh hx
    have ham : a % 2 ^ m < 2 ^ m := Nat.mod_lt _ (pow_pos2 m)
    unfold pop
    unfold fl at hx
    by_cases e : a / 2 ^ m = 0
    · rw [if_pos e] at hx
      rcases List.mem_append.mp hx with q | q
      · split at q
        · obtain ⟨y, hy, rfl⟩ := List.mem_map.mp q
          have h1 := ih _ _ y ham (by omega) hy
          have h2 := top_hi (fl_lt _ _ _ y hy)
          rw [h2.1, h2.2]; omega
        · cases q
      · have h1 := ih _ _ x ham hh q
        have h2 := top_lo (fl_lt _ _ _ x q)
        rw [h2.1, h2.2]; omega
    · have e1 : a / 2 ^ m = 1 := by rcases top_cases ha with q | q <;> omega
      rw [if_neg e] at hx
      rcases List.mem_append.mp hx with q | q
      · obtain ⟨y, hy, rfl⟩ := List.mem_map.mp q
        have h1 := ih _ _ y ham hh hy
        have h2 := top_hi (fl_lt _ _ _ y hy)
        rw [h2.1, h2.2]; omega
      · split at q
        · have h1 := ih _ _ x ham (by omega) q
          have h2 := top_lo (fl_lt _ _ _ x q)
          rw [h2.1, h2.2]; omega
        · cases q
theorem pop_le (m : Nat) : ∀ a, a < 2 ^ m → pop m a ≤ m := by
  induction m with
  | zero => intro a _; exact Nat.le_refl _
  | succ m ih =>
    intro a ha
    have h1 := ih (a % 2 ^ m) (Nat.mod_lt _ (pow_pos2 m))
    unfold pop
    rcases top_cases ha with q | q <;> omega
theorem pop_full (m : Nat) : ∀ a, a < 2 ^ m → (pop m a = m ↔ a = 2 ^ m - 1) := by
  induction m with
  | zero =>
    intro a ha
    refine ⟨fun _ => ?_, fun _ => rfl⟩
    have : a < 1 := ha
    show a = 0
    omega
  | succ m ih =>
    intro a ha
    have hm := Nat.mod_lt a (pow_pos2 m)
    have h1 := ih (a % 2 ^ m) hm
    have h3 := pop_le m (a % 2 ^ m) hm
    have hp := pow_pos2 m
    unfold pop
    rw [Nat.pow_succ]
    rcases top_cases ha with q | q
    · have := top_lo q.2
      omega
    · omega
theorem pop_zero (m : Nat) : pop m 0 = 0 := by
  induction m with
  | zero => rfl
  | succ m ih => unfold pop; rw [Nat.zero_div, Nat.zero_mod, ih]
/-- ways with fuel; f = n is enough -/
def wF (n : Nat) : Nat → Nat → Nat
  | 0, v => if v = 2 ^ n - 1 then 1 else 0
  | f + 1, v => if v = 2 ^ n - 1 then 1 else sm n v 0 (wF n f)
def wy (n v : Nat) : Nat := wF n n v
theorem sum_map_congr {l : List Nat} {f g : Nat → Nat} (h : ∀ x ∈ l, f x = g x) : (l.map f).sum = (l.map g).sum := by rw [List.map_congr_left h]
theorem wF_stab (n : Nat) : ∀ f g v, v < 2 ^ n → n ≤ f + pop n v → n ≤ g + pop n v → wF n f v = wF n g v := by
  intro f
  induction f with
  | zero =>
    intro g v hv hf hg
    have h1 := pop_le n v hv
    have h2 := (pop_full n v hv).mp (by omega)
    cases g with
    | zero => rfl
    | succ g => unfold wF; rw [if_pos h2, if_pos h2]
  | succ f ih =>
    intro g v hv hf hg
    cases g with
    | zero =>
      have h1 := pop_le n v hv
      have h2 := (pop_full n v hv).mp (by omega)
      unfold wF; rw [if_pos h2, if_pos h2]
    | succ g =>
      show (if v = 2 ^ n - 1 then 1 else sm n v 0 (wF n f)) = (if v = 2 ^ n - 1 then 1 else sm n v 0 (wF n g))
      split
      · rfl
      · rw [sm_fl, sm_fl]
        exact sum_map_congr (fun x hx => by
          have h3 := fl_pop n v 0 x hv (by omega) hx
          exact ih g x (fl_lt n v 0 x hx) (by omega) (by omega))
theorem wy_eq {n v : Nat} (hv : v < 2 ^ n) : wy n v = if v = 2 ^ n - 1 then 1 else ((fl n v 0).map (wy n)).sum := by
  by_cases e : v = 2 ^ n - 1
  · rw [if_pos e]
    unfold wy
    cases n with
    | zero => unfold wF; rw [if_pos e]
    | succ n => unfold wF; rw [if_pos e]
  · rw [if_neg e]
    have h0 : wy n v = wF n (n + 1) v := wF_stab n n (n + 1) v hv (by omega) (by omega)
    rw [h0]
    show (if v = 2 ^ n - 1 then 1 else sm n v 0 (wF n n)) = _
    rw [if_neg e, sm_fl]; rfl
/-- a row that follows is greater -/
theorem fl_gt (m : Nat) : ∀ a x, a < 2 ^ m → x ∈ fl m a 0 → a < x := by
  induction m with
  | zero => intro a x ha hx; unfold fl at hx; rw [if_neg (by decide)] at hx; cases hx
  | succ m ih =>
    intro a x ha hx
    have hm := Nat.mod_lt a (pow_pos2 m)
    unfold fl at hx
    rcases top_cases ha with q | q
    · rw [if_pos q.1, if_pos rfl] at hx
      rcases List.mem_append.mp hx with z | z
      · obtain ⟨y, hy, rfl⟩ := List.mem_map.mp z
        omega
      · rw [(top_lo q.2).2] at z
        exact ih a x q.2 z
    · rw [if_neg (by omega), if_neg (by decide), List.append_nil] at hx
      obtain ⟨y, hy, rfl⟩ := List.mem_map.mp hx
      have := ih _ y hm hy
      omega
/-- the list falls -/
theorem fl_sorted (m : Nat) : ∀ a h, (fl m a h).Pairwise (fun x y => y < x) := by
  induction m with
  | zero =>
    intro a h
    unfold fl
    split
    · exact List.pairwise_singleton _ _
    · exact List.Pairwise.nil
  | succ m ih =>
    intro a h
    unfold fl
    have mp : ∀ b g, ((fl m b g).map (fun x => 2 ^ m + x)).Pairwise (fun x y => y < x) := fun b g => List.pairwise_map.mpr ((ih b g).imp (fun h => by omega))
    split
    · refine List.pairwise_append.mpr ⟨?_, ih _ _, fun x hx y hy => ?_⟩
      · split
        · exact mp _ _
        · exact List.Pairwise.nil
      · split at hx
        · obtain ⟨q, hq, rfl⟩ := List.mem_map.mp hx
          have := fl_lt _ _ _ y hy
          omega
        · cases hx
    · refine List.pairwise_append.mpr ⟨mp _ _, ?_, fun x hx y hy => ?_⟩
      · split
        · exact ih _ _
        · exact List.Pairwise.nil
      · obtain ⟨q, hq, rfl⟩ := List.mem_map.mp hx
        split at hy
        · have := fl_lt _ _ _ y hy
          omega
        · cases hy
