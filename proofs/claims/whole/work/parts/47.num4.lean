/-! ===== NUMBERS, 4 (own work): bits turned about; the reference's bits, below ===== -/
def toR : Nat → Nat → Nat
  | 0, _ => 0
  | m + 1, x => x / 2 ^ m + 2 * toR m (x % 2 ^ m)
def toC : Nat → Nat → Nat
  | 0, _ => 0
  | m + 1, s => s % 2 * 2 ^ m + toC m (s / 2)
theorem toC_lt (m : Nat) : ∀ s, toC m s < 2 ^ m := by
  induction m with
  | zero => intro s; exact Nat.one_pos
  | succ m ih =>
    intro s
    have h1 := ih (s / 2)
    have h2 : s % 2 * 2 ^ m ≤ 1 * 2 ^ m := Nat.mul_le_mul_right _ (by omega)
    show s % 2 * 2 ^ m + toC m (s / 2) < 2 ^ (m + 1)
    rw [Nat.pow_succ]; omega
theorem toR_lt (m : Nat) : ∀ x, x < 2 ^ m → toR m x < 2 ^ m := by
  induction m with
  | zero => intro x _; exact Nat.one_pos
  | succ m ih =>
    intro x hx
    have h1 := ih (x % 2 ^ m) (Nat.mod_lt _ (pow_pos2 m))
    show x / 2 ^ m + 2 * toR m (x % 2 ^ m) < 2 ^ (m + 1)
    rw [Nat.pow_succ]
    rcases top_cases hx with q | q <;> omega
theorem toC_top (m s : Nat) : toC (m + 1) s / 2 ^ m = s % 2 ∧ toC (m + 1) s % 2 ^ m = toC m (s / 2) := by
  have h1 := toC_lt m (s / 2)
  have hp := pow_pos2 m
  show (s % 2 * 2 ^ m + toC m (s / 2)) / 2 ^ m = s % 2 ∧ (s % 2 * 2 ^ m + toC m (s / 2)) % 2 ^ m = toC m (s / 2)
  rw [Nat.add_comm, Nat.add_mul_div_right _ _ hp, Nat.add_mul_mod_self_right, Nat.div_eq_of_lt h1, Nat.mod_eq_of_lt h1]
  exact ⟨Nat.zero_add _, rfl⟩
theorem toR_toC (m : Nat) : ∀ s, s < 2 ^ m → toR m (toC m s) = s := by
  induction m with
  | zero => intro s hs; have : s < 1 := hs; show 0 = s; omega
  | succ m ih =>
    intro s hs
    rw [Nat.pow_succ] at hs
    have t := toC_top m s
    show toC (m + 1) s / 2 ^ m + 2 * toR m (toC (m + 1) s % 2 ^ m) = s
    rw [t.1, t.2, ih (s / 2) (by omega)]; omega
theorem toC_toR (m : Nat) : ∀ x, x < 2 ^ m → toC m (toR m x) = x := by
  induction m with
  | zero => intro x hx; have : x < 1 := hx; show 0 = x; omega
  | succ m ih =>
    intro x hx
    have e : x / 2 ^ m ≤ 1 := by rcases top_cases hx with q | q <;> omega
    have h2 := ih (x % 2 ^ m) (Nat.mod_lt _ (pow_pos2 m))
    show (x / 2 ^ m + 2 * toR m (x % 2 ^ m)) % 2 * 2 ^ m + toC m ((x / 2 ^ m + 2 * toR m (x % 2 ^ m)) / 2) = x
    have k1 : ∀ q r : Nat, q ≤ 1 → (q + 2 * r) % 2 = q ∧ (q + 2 * r) / 2 = r := fun q r hq => by omega
    rw [(k1 _ _ e).1, (k1 _ _ e).2, h2]
    exact Nat.div_add_mod' x (2 ^ m)
theorem toC_pow (m : Nat) : ∀ c, c < m → toC m (2 ^ c) = 2 ^ (m - 1 - c) := by
  induction m with
  | zero => intro c hc; exact absurd hc (Nat.not_lt_zero _)
  | succ m ih =>
    intro c hc
    show 2 ^ c % 2 * 2 ^ m + toC m (2 ^ c / 2) = 2 ^ (m + 1 - 1 - c)
    cases c with
    | zero =>
      have z : ∀ k, toC k 0 = 0 := fun k => by
        induction k with
        | zero => rfl
        | succ k ih => show 0 % 2 * 2 ^ k + toC k (0 / 2) = 0; rw [show 0 / 2 = 0 from rfl, ih, Nat.zero_mod, Nat.zero_mul]
      rw [Nat.pow_zero, show 1 % 2 = 1 from rfl, show 1 / 2 = 0 from rfl, z, Nat.one_mul, Nat.add_zero, show m + 1 - 1 - 0 = m by omega]
    | succ c =>
      rw [Nat.pow_succ, Nat.mul_mod_left, Nat.zero_mul, Nat.zero_add, Nat.mul_div_cancel _ (by decide), ih c (by omega), show m + 1 - 1 - (c + 1) = m - 1 - c by omega]
def cB (s : Nat) : Nat → Nat
  | 0 => 0
  | k + 1 => cB s k + s / 2 ^ k % 2
theorem cB_shift (s : Nat) : ∀ k, cB s (k + 1) = s % 2 + cB (s / 2) k := by
  intro k
  induction k with
  | zero => show 0 + s / 2 ^ 0 % 2 = s % 2 + 0; rw [Nat.pow_zero, Nat.div_one]; omega
  | succ k ih =>
    show cB s (k + 1) + s / 2 ^ (k + 1) % 2 = s % 2 + (cB (s / 2) k + s / 2 / 2 ^ k % 2)
    rw [ih, Nat.pow_succ, Nat.mul_comm, ← Nat.div_div_eq_div_mul]; omega
theorem cB_pop (m : Nat) : ∀ s, pop m (toC m s) = cB s m := by
  induction m with
  | zero => intro s; rfl
  | succ m ih =>
    intro s
    have t := toC_top m s
    show toC (m + 1) s / 2 ^ m + pop m (toC (m + 1) s % 2 ^ m) = cB s (m + 1)
    rw [t.1, t.2, ih, cB_shift]
theorem cB_hi {s n : Nat} (hs : s < 2 ^ n) : ∀ k, n ≤ k → cB s k = cB s n := by
  intro k
  induction k with
  | zero => intro h; rw [show n = 0 by omega]
  | succ k ih =>
    intro h
    by_cases e : n = k + 1
    · rw [e]
    · show cB s k + s / 2 ^ k % 2 = cB s n
      rw [ih (by omega), Nat.div_eq_of_lt (Nat.lt_of_lt_of_le hs (Nat.pow_le_pow_right (by decide) (by omega)))]; rfl
theorem cB_le (s : Nat) : ∀ k, cB s k ≤ k := by
  intro k
  induction k with
  | zero => exact Nat.le_refl _
  | succ k ih => show cB s k + s / 2 ^ k % 2 ≤ k + 1; omega
def lsum : List Int64 → Int64
  | [] => 0
  | x :: l => x + lsum l
theorem lsum_app (l k : List Int64) : lsum (l ++ k) = lsum l + lsum k := by
  induction l with
  | nil => show lsum k = 0 + lsum k; rw [Int64.zero_add]
  | cons x l ih => show x + lsum (l ++ k) = x + lsum l + lsum k; rw [ih, Int64.add_assoc]
theorem lsum_lI (l : List Nat) (f : Nat → Nat) : lsum (l.map (fun x => lI (f x : Nat))) = lI ((l.map f).sum : Nat) := by
  induction l with
  | nil => rfl
  | cons x l ih => show lI (f x : Nat) + lsum (l.map (fun x => lI (f x : Nat))) = lI ((f x + (l.map f).sum : Nat) : Int); rw [ih, lI_add, Int.natCast_add]
section XNUM
variable {w : XW}
theorem r_bits {s : Nat} (hs : s < 2147483648) : xm M_bits 0 [.int (iI (s : Int))] w = some (.int (iI ((cB s 20 : Nat) : Int)), w) := by
  rw [e_M_bits, q_M_bits_0]
  refine x_loop (fun (k : Nat) (t : Nat) (_ : Unit) => xr M_bits 0 4 [some (.int (iI (s : Int))), some (.int (iI (t : Int))), some (.int (iI k))] [] (0, 0) w) 20
    (fun k t => t = cB s k) (fun o => o = some (.int (iI ((cB s 20 : Nat) : Int)), w)) (fun k t u hk hp => Or.inr ⟨cB s (k + 1), (), ?_, rfl⟩) (fun t u hp => ?_) 0 () rfl
  · rw [q_M_bits_4, iI_bit hs (by omega), iI_add, iI_add, hp]
    exact s_lef (by omega) rfl
  · rw [q_M_bits_4]
    refine s_let (by omega) ?_
    rw [q_M_bits_24, hp]
theorem sh_div (s c : Nat) : s / 2 ^ (c + 1) = s / 2 ^ c / 2 := by rw [Nat.pow_succ, Nat.div_div_eq_div_mul]
theorem r_below0 (hG : XG w) {n s : Nat} (hn : n ≤ 13) (hs : s < 2 ^ n) : ∀ (m lw c h ch : Nat), m ≤ lw → c + m = n → h ≤ 1 → ch < 2 ^ c → xm M_below lw [.ref 34, .int (iI (s : Int)), .int (iI (n : Int)), .int (iI (c : Int)), .int (iI (h : Int)), .int (iI (ch : Int))] w = some (.long (lsum ((fl m (toC m (s / 2 ^ c)) h).map (fun x => xLA w 39 (ch + 2 ^ c * toR m x)))), w) := by
  have p13 : (2 : Nat) ^ n ≤ 8192 := Nat.le_trans (Nat.pow_le_pow_right (by decide) hn) (by decide)
  intro m
  induction m with
  | zero =>
    intro lw c h ch hl hc hh hch
    have hcn : c = n := by omega
    subst hcn
    rw [e_M_below, q_M_below_0]
    refine s_eqt rfl ?_
    by_cases q : h = 1
    · subst q
      refine s_eqt rfl (s_g rfl (s_o (hG.r (by decide) rfl) (s_g (xin_t (n := 8192) (by omega)) ?_)))
      rw [iI_natk ch (by omega), q_M_below_22]
      show some (Value.long (xLA w 39 ch), w) = some (Value.long (xLA w 39 (ch + 2 ^ c * 0) + 0), w)
      rw [Nat.mul_zero, Nat.add_zero, Int64.add_zero]
    · refine s_eqf (by omega) ?_
      rw [q_M_below_21, q_M_below_22]
      unfold fl
      rw [if_neg q]; rfl
  | succ m ih =>
    intro lw c h ch hl hc hh hch
    obtain ⟨l, rfl⟩ : ∃ l, lw = l + 1 := ⟨lw - 1, by omega⟩
    have pc : (2 : Nat) ^ c ≤ 2 ^ 12 := Nat.pow_le_pow_right (by decide) (by omega)
    have pc1 : (2 : Nat) ^ (c + 1) = 2 * 2 ^ c := by rw [Nat.pow_succ]; omega
    have hbit := iI_bit (v := s) (s := c) (by omega) (by omega)
    have tb : s / 2 ^ c % 2 ≤ 1 := by omega
    generalize htt : s / 2 ^ c % 2 = t at *
    have top := toC_top m (s / 2 ^ c)
    rw [htt, ← sh_div] at top
    -- the two branches
    have rec0 : h - t + t = h → xm M_below l [.ref 34, .int (iI (s : Int)), .int (iI (n : Int)), .int (iI ((c : Int) + 1)), .int (iI ((h : Int) + 0 - t)), .int (iI (ch : Int) ||| (iI 0 <<< (iI (c : Int) &&& 31)))] w = some (.long (lsum ((fl m (toC m (s / 2 ^ (c + 1))) (h - t)).map (fun x => xLA w 39 (ch + 2 ^ (c + 1) * toR m x)))), w) := fun hv => by
      have e0 : iI 0 <<< (iI (c : Int) &&& 31) = iI ((0 : Nat) : Int) := by have := iI_shl (v := 0) (s := c) (by omega) (by omega); rw [Nat.zero_mul] at this; exact this
      have e1 : iI (ch : Int) ||| iI ((0 : Nat) : Int) = iI (ch : Int) := Int32.or_zero
      rw [e0, e1]
      have := ih l (c + 1) (h - t) ch (by omega) (by omega) (by omega) (by omega)
      rw [show (((h - t : Nat) : Int)) = (h : Int) + 0 - t by omega] at this
      exact this
    have rec1 : h + 1 - t ≤ 1 → t ≤ h + 1 → xm M_below l [.ref 34, .int (iI (s : Int)), .int (iI (n : Int)), .int (iI ((c : Int) + 1)), .int (iI ((h : Int) + 1 - t)), .int (iI (ch : Int) ||| (iI 1 <<< (iI (c : Int) &&& 31)))] w = some (.long (lsum ((fl m (toC m (s / 2 ^ (c + 1))) (h + 1 - t)).map (fun x => xLA w 39 (ch + 2 ^ c + 2 ^ (c + 1) * toR m x)))), w) := fun hv1 hv2 => by
      rw [iI_pow (by omega), iI_orp hch (by omega)]
      have := ih l (c + 1) (h + 1 - t) (ch + 2 ^ c) (by omega) (by omega) hv1 (by omega)
      rw [show (((h + 1 - t : Nat) : Int)) = (h : Int) + 1 - t by omega] at this
      exact this
    have fin : ∀ (x : Int64) u, xr M_below (l + 1) 36 [some (.ref 34), some (.int (iI (s : Int))), some (.int (iI (n : Int))), some (.int (iI (c : Int))), some (.int (iI (h : Int))), some (.int (iI (ch : Int))), some (.long x), some (.retAddr 7), some (.int (iI ((t : Nat) : Int))), some (.int (iI 2)), u] [] (0, 0) w = some (.long x, w) := fun x u => by
      rw [q_M_below_36]
      refine s_let (by omega) ?_
      rw [q_M_below_92]
    have one : ∀ (x : Int64) u, xr M_below (l + 1) 36 [some (.ref 34), some (.int (iI (s : Int))), some (.int (iI (n : Int))), some (.int (iI (c : Int))), some (.int (iI (h : Int))), some (.int (iI (ch : Int))), some (.long x), some (.retAddr 7), some (.int (iI ((t : Nat) : Int))), some (.int (iI 1)), u] [] (0, 0) w = some (.long (x + (if h + 1 - t ≤ 1 ∧ t ≤ h + 1 then lsum ((fl m (toC m (s / 2 ^ (c + 1))) (h + 1 - t)).map (fun x => xLA w 39 (ch + 2 ^ c + 2 ^ (c + 1) * toR m x))) else 0)), w) := fun x u => by
      rw [q_M_below_36]
      simp only [iI_add, iI_sub]
      refine s_lef (by omega) ?_
      rw [iI_zero]
      by_cases v1 : h + 1 - t ≤ 1 ∧ t ≤ h + 1
      · refine s_ltf (by omega) (s_lef (by omega) (s_g rfl (s_J (rec1 v1.1 v1.2) ?_)))
        rw [q_M_below_86, iI_add, show (1 : Int) + 1 = 2 from rfl, fin, if_pos v1]
      · rw [if_neg v1, Int64.add_zero]
        refine s_ltf (by omega) (s_let (by omega) ?_)
        rw [q_M_below_86, iI_add, show (1 : Int) + 1 = 2 from rfl, fin]
    rw [e_M_below, q_M_below_0]
    refine s_eqf (by omega) ?_
    rw [q_M_below_23, hbit, q_M_below_36]
    simp only [iI_add, iI_sub]
    refine s_lef (by omega) ?_
    rw [iI_zero]
    have reidx1 : (fun x => xLA w 39 (ch + 2 ^ c + 2 ^ (c + 1) * toR m x)) = (fun x => xLA w 39 (ch + 2 ^ c * (1 + 2 * toR m x))) := funext fun x => (by rw [pc1, Nat.mul_add, Nat.mul_one, Nat.mul_assoc 2, Nat.mul_left_comm, Nat.add_assoc])
    have reidx0 : (fun x => xLA w 39 (ch + 2 ^ (c + 1) * toR m x)) = (fun x => xLA w 39 (ch + 2 ^ c * (0 + 2 * toR m x))) := funext fun x => (by rw [pc1, Nat.zero_add, Nat.mul_assoc 2, Nat.mul_left_comm])
    have mp1 : ∀ g, ((fl m (toC m (s / 2 ^ (c + 1))) g).map (fun x => 2 ^ m + x)).map (fun x => xLA w 39 (ch + 2 ^ c * toR (m + 1) x)) = (fl m (toC m (s / 2 ^ (c + 1))) g).map (fun x => xLA w 39 (ch + 2 ^ c + 2 ^ (c + 1) * toR m x)) := fun g => by
      rw [List.map_map, reidx1]
      exact List.map_congr_left (fun x hx => by
        have tt := top_hi (fl_lt _ _ _ x hx)
        show xLA w 39 (ch + 2 ^ c * ((2 ^ m + x) / 2 ^ m + 2 * toR m ((2 ^ m + x) % 2 ^ m))) = _
        rw [tt.1, tt.2])
    have mp0 : ∀ g, (fl m (toC m (s / 2 ^ (c + 1))) g).map (fun x => xLA w 39 (ch + 2 ^ c * toR (m + 1) x)) = (fl m (toC m (s / 2 ^ (c + 1))) g).map (fun x => xLA w 39 (ch + 2 ^ (c + 1) * toR m x)) := fun g => by
      rw [reidx0]
      exact List.map_congr_left (fun x hx => by
        have tt := top_lo (fl_lt _ _ _ x hx)
        show xLA w 39 (ch + 2 ^ c * (x / 2 ^ m + 2 * toR m (x % 2 ^ m))) = _
        rw [tt.1, tt.2])
    unfold fl
    rw [top.1, top.2]
    by_cases t0 : t = 0
    · subst t0
      rw [if_pos rfl, List.map_append, lsum_app, mp0]
      refine s_ltf (by omega) (s_lef (by omega) (s_g rfl (s_J (rec0 (by omega)) ?_)))
      rw [q_M_below_86, iI_add, show (0 : Int) + 1 = 1 from rfl, one, show h - 0 = h by omega]
      have z : (lI 0 : Int64) = 0 := rfl
      by_cases h0 : h = 0
      · subst h0
        rw [if_pos (by omega), if_pos rfl, mp1, z, Int64.zero_add, Int64.add_comm]
      · rw [if_neg (by omega), if_neg h0, z, Int64.zero_add, Int64.add_zero]
        show _ = some (Value.long (0 + _), w)
        rw [Int64.zero_add]
    · have t1 : t = 1 := by omega
      subst t1
      rw [if_neg (by decide : ¬ (1 : Nat) = 0), List.map_append, lsum_app, mp1]
      have z : (lI 0 : Int64) = 0 := rfl
      by_cases h1 : h = 1
      · subst h1
        refine s_ltf (by omega) (s_lef (by omega) (s_g rfl (s_J (rec0 (by omega)) ?_)))
        rw [q_M_below_86, iI_add, show (0 : Int) + 1 = 1 from rfl, one, if_pos (by omega), if_pos rfl, mp0, z, Int64.zero_add, Int64.add_comm]
      · have h0 : h = 0 := by omega
        subst h0
        refine s_ltt (by omega) ?_
        rw [q_M_below_86, iI_add, show (0 : Int) + 1 = 1 from rfl, one, if_pos (by omega), if_neg (by decide), z, Int64.zero_add]
        show _ = some (Value.long (_ + 0), w)
        rw [Int64.add_zero]
end XNUM
