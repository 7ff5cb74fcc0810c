/-! ===== THE REFERENCE, 3 (own work): the triangle's fault, fault, take, reads ===== -/
theorem iI_div {a b : Int} (ha : 0 ≤ a ∧ a < 2147483648) (hb : 0 < b ∧ b < 2147483648) : iI a / iI b = iI (a / b) := by
  apply Int32.toInt_inj.1
  have hne : iI b ≠ -1 := fun q => by
    have := congrArg Int32.toInt q
    rw [iI_val (by omega)] at this
    have e : (-1 : Int32).toInt = -1 := by decide
    omega
  have h1 : 0 ≤ a / b := Int.ediv_nonneg ha.1 (by omega)
  have h2 : a / b ≤ a := Int.ediv_le_self _ ha.1
  rw [Int32.toInt_div_of_ne_right _ _ hne, iI_val (by omega), iI_val (by omega), iI_val (by omega), Int.tdiv_eq_ediv_of_nonneg ha.1]
theorem iI_rem2 {a : Int} (ha : 0 ≤ a ∧ a < 2147483648) : iI a - iI a / iI 2 * iI 2 = iI (a % 2) := by
  rw [iI_div ha (by decide), iI_mul, iI_sub]
  congr 1
  omega
def rvO (u : Nat → Nat) : Nat → Nat
  | 0 => 0
  | k + 1 => rvO u k + u k * 2 ^ k
theorem rvO_lt {u : Nat → Nat} {n : Nat} (h : ∀ k, k < n → u k ≤ 1) : rvO u n < 2 ^ n := by
  induction n with
  | zero => exact Nat.one_pos
  | succ n ih =>
    have h1 := ih (fun k hk => h k (by omega))
    have h2 : u n * 2 ^ n ≤ 1 * 2 ^ n := Nat.mul_le_mul_right _ (h n (by omega))
    show rvO u n + u n * 2 ^ n < 2 ^ (n + 1)
    rw [Nat.pow_succ]; omega
theorem rvO_hi {u : Nat → Nat} {n m : Nat} (h : ∀ k, k < n → u k ≤ 1) (hm : n ≤ m) : rvO u n / 2 ^ m = 0 := Nat.div_eq_of_lt (Nat.lt_of_lt_of_le (rvO_lt h) (Nat.pow_le_pow_right (by decide) hm))
theorem rvO_digit {u : Nat → Nat} {n k : Nat} (h : ∀ k, k < n → u k ≤ 1) (hk : k < n) : rvO u n / 2 ^ k % 2 = u k := by
  induction n with
  | zero => exact absurd hk (Nat.not_lt_zero _)
  | succ n ih =>
    have h1 := rvO_lt (u := u) (n := n) (fun k hk => h k (by omega))
    have h2 := h n (by omega)
    show (rvO u n + u n * 2 ^ n) / 2 ^ k % 2 = u k
    by_cases e : k = n
    · subst e
      rw [Nat.add_mul_div_right _ _ (Nat.two_pow_pos k), Nat.div_eq_of_lt h1]; omega
    · rw [show u n * 2 ^ n = (u n * 2 ^ (n - 1 - k) * 2) * 2 ^ k by rw [Nat.mul_assoc, Nat.mul_assoc, ← Nat.pow_succ', ← Nat.pow_add, show n - 1 - k + (k + 1) = n by omega], Nat.add_mul_div_right _ _ (Nat.two_pow_pos k), Nat.add_mul_mod_self_right]
      exact ih (fun k hk => h k (by omega)) (by omega)
def rowR (C : Nat → Nat → Int) (i n : Nat) : Nat := rvO (fun c => (C i (c + 1) - C i c).toNat) n
theorem uC_le {n : Nat} {C : Nat → Nat → Int} (h : asm n C) {i : Nat} (hi : i ≤ n) : ∀ k, k < n → (C i (k + 1) - C i k).toNat ≤ 1 := fun k hk => by
  have := h.2.2.2.2.2 i k hi hk
  omega
theorem iI_orp {v c : Nat} (hv : v < 2 ^ c) (hc : c < 31) : iI (v : Int) ||| iI ((2 ^ c : Nat) : Int) = iI ((v + 2 ^ c : Nat) : Int) := by
  have h1 : (2 : Nat) ^ c < 2 ^ 31 := Nat.pow_lt_pow_right (by decide) hc
  rw [iI_nI, iI_nI, iI_nI]
  apply Int32.toBitVec_inj.1
  apply BitVec.eq_of_toNat_eq
  show (BitVec.ofNat 32 v ||| BitVec.ofNat 32 (2 ^ c)).toNat = (BitVec.ofNat 32 (v + 2 ^ c)).toNat
  rw [BitVec.toNat_or, BitVec.toNat_ofNat, BitVec.toNat_ofNat, BitVec.toNat_ofNat, Nat.mod_eq_of_lt (by omega), Nat.mod_eq_of_lt (by omega), Nat.mod_eq_of_lt (by omega), Nat.or_comm]
  have := Nat.two_pow_add_eq_or_of_lt hv 1
  rw [Nat.mul_one] at this
  rw [← this, Nat.add_comm]
section XMOD
variable {w : XW} {A : AS}
theorem r_faultOfTriangle (hG : XG w) {n : Nat} {d : Nat → Int} (h : rd w 2 n d) : xm M_faultOfTriangle 0 [.ref 34] w = some (.int (iI (faultC 2 n d)), w) := by
  obtain ⟨hs, hn, e3, e4, hc⟩ := id h
  rw [e_M_faultOfTriangle, q_M_faultOfTriangle_0]
  refine x_nest (fun (i : Nat) (_ : Unit) (u : Option Value × Option Value × Option Value) => xr M_faultOfTriangle 0 2 [some (.ref 34), some (.int (iI ((i : Int) + 1))), u.1, u.2.1, u.2.2] [] (0, 0) w)
    (fun (i j : Nat) (_ : Unit) (u : Option Value × Option Value) => xr M_faultOfTriangle 0 12 [some (.ref 34), some (.int (iI ((i : Int) + 1))), some (.int (iI j)), u.1, u.2] [] (0, 0) w) n (fun i => i + 1)
    (fun i j _ => ∀ r c, (r < i + 1 ∨ r = i + 1 ∧ c < j) → ¬ cellBad 2 n d r c) (fun o => o = some (.int (iI (faultC 2 n d)), w))
    (fun i t u hi hp => ⟨(u.2.1, u.2.2), ?_⟩) (fun i j t v hi hj hp => ?_) (fun i t v hi hp => ⟨(some (.int (iI ((i + 1 : Nat) : Int))), v.1, v.2), ?_, fun r c hr hb => ?_⟩) (fun t u hp => ?_) () (none, none, none) (fun r c hr hb => by have := hb.1; omega)
  · rw [q_M_faultOfTriangle_2, e4]
    exact s_g rfl (s_ltf (by omega) rfl)
  · have cv := (hc ((i + 1) * 11 + j) (by omega)).2
    have chk : ∀ T, (¬ colOk n d (i + 1) j → some (.int (iI (1000 + 100 * ((i : Int) + 1) + j)), w) = T) → (colOk n d (i + 1) j → xr M_faultOfTriangle 0 129 [some (.ref 34), some (.int (iI ((i : Int) + 1))), some (.int (iI j)), some (.int (iI (d ((i + 1) * 11 + j)))), some (.int (iI 1))] [] (0, 0) w = T) → xr M_faultOfTriangle 0 12 [some (.ref 34), some (.int (iI ((i : Int) + 1))), some (.int (iI j)), v.1, v.2] [] (0, 0) w = T := by
      intro T hbad hgood
      rw [q_M_faultOfTriangle_12]
      refine s_lef (by omega) (s_g rfl (s_I (r_d hG h (i + 1) j (by omega)) ?_))
      generalize hv : d ((i + 1) * 11 + j) = x at *
      have b111 : ∀ z, ¬ colOk n d (i + 1) j → xr M_faultOfTriangle 0 111 [some (.ref 34), some (.int (iI ((i : Int) + 1))), some (.int (iI j)), some (.int (iI x)), some (.int z)] [.int (iI 0)] (0, 0) w = T := fun z q => by
        rw [q_M_faultOfTriangle_111]
        refine s_t rfl ?_
        rw [iI_mul, iI_add, iI_add]; exact hbad q
      have b57 : ∀ u, ¬ colOk n d (i + 1) j → xr M_faultOfTriangle 0 57 [some (.ref 34), some (.int (iI ((i : Int) + 1))), some (.int (iI j)), some (.int (iI x)), u] [.int (iI 0)] (0, 0) w = T := fun u q => by
        rw [q_M_faultOfTriangle_57]
        refine s_t rfl ?_
        rw [q_M_faultOfTriangle_110]; exact b111 _ q
      have p83 : (0 ≤ x ∧ x ≤ (n : Int) - 1) → (j = 0 ∨ d ((i + 1) * 11 + (j - 1)) < x) → (j = i ∨ x ≤ d (i * 11 + j)) → xr M_faultOfTriangle 0 83 [some (.ref 34), some (.int (iI ((i : Int) + 1))), some (.int (iI j)), some (.int (iI x)), some (.int (iI 1))] [] (0, 0) w = T := by
        intro k1 k2 k3
        have yes : (i + 1 = 1 ∨ ((j = i + 1 - 1 ∨ d ((i + 1) * 11 + j) ≤ d ((i + 1 - 1) * 11 + j)) ∧ (j = 0 ∨ d ((i + 1 - 1) * 11 + (j - 1)) ≤ d ((i + 1) * 11 + j)))) → xr M_faultOfTriangle 0 106 [some (.ref 34), some (.int (iI ((i : Int) + 1))), some (.int (iI j)), some (.int (iI x)), some (.int (iI 1))] [] (0, 0) w = T := fun k4 => by
          rw [q_M_faultOfTriangle_106, q_M_faultOfTriangle_111]
          refine s_f (by decide) (hgood ?_)
          refine ⟨by rw [hv]; exact k1, by rw [hv]; exact k2, k4⟩
        rw [q_M_faultOfTriangle_83, iI_zero]
        by_cases hj0 : j = 0
        · exact s_eqt (by omega) (yes (Or.inr ⟨by rw [hv, show i + 1 - 1 = i by omega]; exact k3, Or.inl hj0⟩))
        · refine s_eqf (by omega) ?_
          by_cases hi0 : i = 0
          · exact s_eqt (by omega) (yes (Or.inl (by omega)))
          · have cl := (hc (i * 11 + (j - 1)) (by omega)).2
            refine s_eqf (by omega) ?_
            rw [iI_sub, iI_sub]
            refine s_g rfl (s_I (r_d hG h i (j - 1) (by omega)) ?_)
            by_cases q1 : x < d (i * 11 + (j - 1))
            · refine s_ltt (by omega) ?_
              rw [q_M_faultOfTriangle_110]
              exact b111 _ (fun z => by have := z.2.2; rw [hv, show i + 1 - 1 = i by omega] at this; omega)
            · exact s_ltf (by omega) (yes (Or.inr ⟨by rw [hv, show i + 1 - 1 = i by omega]; exact k3, Or.inr (by rw [hv, show i + 1 - 1 = i by omega]; omega)⟩))
      have p57 : (0 ≤ x ∧ x ≤ (n : Int) - 1) → (j = 0 ∨ d ((i + 1) * 11 + (j - 1)) < x) → ∀ u, xr M_faultOfTriangle 0 57 [some (.ref 34), some (.int (iI ((i : Int) + 1))), some (.int (iI j)), some (.int (iI x)), u] [.int (iI 1)] (0, 0) w = T := by
        intro k1 k2 u
        rw [q_M_faultOfTriangle_57]
        refine s_f (by decide) ?_
        rw [iI_sub]
        by_cases hj0 : j = i
        · exact s_let (by omega) (p83 k1 k2 (Or.inl hj0))
        · have cl := (hc (i * 11 + j) (by omega)).2
          refine s_lef (by omega) (s_g rfl (s_I (r_d hG h i j (by omega)) ?_))
          by_cases q1 : d (i * 11 + j) < x
          · refine s_ltt (by omega) ?_
            rw [q_M_faultOfTriangle_110]
            exact b111 _ (fun z => by have := z.2.2; rw [hv, show i + 1 - 1 = i by omega] at this; omega)
          · exact s_ltf (by omega) (p83 k1 k2 (Or.inr (by omega)))
      rw [iI_zero]
      by_cases q1 : x < 0
      · refine s_ltt (by omega) ?_
        rw [q_M_faultOfTriangle_56]
        exact b57 _ (fun z => by have := z.1; rw [hv] at this; omega)
      · refine s_ltf (by omega) (s_g rfl ?_)
        rw [e4]
        by_cases q2 : (n : Int) ≤ x
        · refine s_let (by omega) ?_
          rw [q_M_faultOfTriangle_56]
          exact b57 _ (fun z => by have := z.1; rw [hv] at this; omega)
        · refine s_lef (by omega) ?_
          by_cases hj0 : j = 0
          · refine s_eqt (by omega) ?_
            rw [q_M_faultOfTriangle_52]
            exact p57 (by omega) (Or.inl hj0) _
          · have cl := (hc ((i + 1) * 11 + (j - 1)) (by omega)).2
            refine s_eqf (by omega) ?_
            rw [iI_sub]
            refine s_g rfl (s_I (r_d hG h (i + 1) (j - 1) (by omega)) ?_)
            by_cases q3 : x ≤ d ((i + 1) * 11 + (j - 1))
            · refine s_let (by omega) ?_
              rw [q_M_faultOfTriangle_56]
              exact b57 _ (fun z => by have := z.2.1; rw [hv] at this; omega)
            · refine s_lef (by omega) ?_
              rw [q_M_faultOfTriangle_52]
              exact p57 (by omega) (Or.inr (by omega)) _
    by_cases hk : colOk n d (i + 1) j
    · refine Or.inr ⟨(), (some (.int (iI (d ((i + 1) * 11 + j)))), some (.int (iI 1))), chk _ (fun q => absurd hk q) (fun _ => ?_), fun r c hr => ?_⟩
      · rw [q_M_faultOfTriangle_129, iI_add]; rfl
      · by_cases q : r = i + 1 ∧ c = j
        · rw [q.1, q.2]; exact fun z => z.2 hk
        · exact hp r c (by omega)
    · have hF : isF (cellBad 2 n d) (i + 1, j) := ⟨⟨⟨by omega, by omega, by omega⟩, hk⟩, hp⟩
      refine Or.inl (chk _ (fun _ => ?_) (fun q => absurd q hk))
      unfold faultC
      rw [frst_some hF]; rfl
  · rw [q_M_faultOfTriangle_12]
    refine s_let (by omega) ?_
    rw [q_M_faultOfTriangle_135, iI_add]; rfl
  · by_cases q : r < i + 1 ∨ r = i + 1 ∧ c < i + 1
    · exact hp r c q hb
    · have := hb.1; omega
  · rw [q_M_faultOfTriangle_2, e4]
    refine s_g rfl (s_ltt (by omega) ?_)
    unfold faultC
    rw [q_M_faultOfTriangle_141, frst_none (fun r c hb => hp r c (by have := hb.1; omega) hb)]
theorem r_fault (h : IM w A) : xm M_fault 0 [.ref 34] w = some (.int (iI (o_fault A)), xpF w 34 0 (iI 0)) := by
  have h0 := IM_F (k := 0) (v := iI 0) h (by decide)
  have hG := h0.1
  have hd := h0.2.2
  rw [e_M_fault, q_M_fault_0]
  generalize xpF w 34 0 (iI 0) = t at h0 hG hd ⊢
  obtain ⟨hs, hn, e3, e4, hc⟩ := id hd
  unfold o_fault faultD
  refine s_g rfl (s_g rfl ?_)
  generalize A.2.2.1 = s at *
  generalize A.2.2.2.1 = n at *
  generalize A.2.2.2.2 = d at *
  rw [e3]
  match s, hs with
  | 1, _ =>
    rw [if_neg (by decide : ¬ (1 : Nat) = 0)]
    exact s_eqt rfl (s_g rfl (s_I (r_faultOfSums hG hd) rfl))
  | 2, _ =>
    rw [if_neg (by decide : ¬ (2 : Nat) = 0)]
    refine s_eqf (by omega) ?_
    rw [q_M_fault_18, e3]
    exact s_g rfl (s_eqt rfl (s_g rfl (s_I (r_faultOfTriangle hG hd) rfl)))
  | 0, _ =>
    rw [if_pos rfl]
    refine s_eqf (by omega) ?_
    rw [q_M_fault_18, e3]
    refine s_g rfl (s_eqf (by omega) ?_)
    rw [q_M_fault_31]
    have hx := x_ex (fun k : Nat => xr M_fault 0 33 [some (.ref 34), some (.int (iI k))] [] (0, 0) t) (fun k => some (.int (iI (100 + (k : Int))), t)) (fun i => !altB (fun k => d (i * 11 + k)) n) (N := n) (fun k hk hp => ?_) (fun k hk hp => ?_)
    · refine hx.trans ?_
      unfold faultL
      split
      · rfl
      · rw [q_M_fault_33, e4]
        refine s_g rfl (s_let (by omega) ?_)
        rw [q_M_fault_61]
        have hy := x_ex (fun k : Nat => xr M_fault 0 63 [some (.ref 34), some (.int (iI k))] [] (0, 0) t) (fun k => some (.int (iI (200 + (k : Int))), t)) (fun j => !altB (fun k => d (k * 11 + j)) n) (N := n) (fun k hk hp => ?_) (fun k hk hp => ?_)
        · refine hy.trans ?_
          split
          · rfl
          · rw [q_M_fault_63, e4]
            refine s_g rfl (s_let (by omega) ?_)
            rw [q_M_fault_92]
        · rw [q_M_fault_63, e4]
          refine s_g rfl (s_lef (by omega) (s_g rfl (s_I (r_isRight hG hd false rfl k ⟨rfl, hk⟩ _ (fun q => rfl)) (s_bt (by simpa using hp) ?_))))
          rw [q_M_fault_86, iI_add]; rfl
        · rw [q_M_fault_63, e4]
          refine s_g rfl (s_lef (by omega) (s_g rfl (s_I (r_isRight hG hd false rfl k ⟨rfl, hk⟩ _ (fun q => rfl)) (s_bf (by simpa using hp) ?_))))
          rw [iI_add]
    · rw [q_M_fault_33, e4]
      refine s_g rfl (s_lef (by omega) (s_g rfl (s_I (r_isRight hG hd true rfl k ⟨rfl, hk⟩ _ (fun q => rfl)) (s_bt (by simpa using hp) ?_))))
      rw [q_M_fault_55, iI_add]; rfl
    · rw [q_M_fault_33, e4]
      refine s_g rfl (s_lef (by omega) (s_g rfl (s_I (r_isRight hG hd true rfl k ⟨rfl, hk⟩ _ (fun q => rfl)) (s_bf (by simpa using hp) ?_))))
      rw [iI_add]
theorem r_inRow (hG : XG w) {s n : Nat} {d : Nat → Int} (h : rd w s n d) {zi zj : Int} (i j : Nat) (hh : zi = i ∧ zj = j ∧ i ≤ n ∧ j < n) : xm M_inRow 0 [.ref 34, .int (iI zi), .int (iI zj)] w = some (.int (iI ((inR (fun q => d (i * 11 + q)) j i : Nat) : Int)), w) := by
  obtain ⟨rfl, rfl, hi, hj⟩ := hh
  obtain ⟨hs, hn, e3, e4, hc⟩ := id h
  rw [e_M_inRow, q_M_inRow_0]
  refine x_loop (fun (k : Nat) (t : Int) (_ : Unit) => xr M_inRow 0 5 [some (.ref 34), some (.int (iI (i : Int))), some (.int (iI (j : Int))), some (.int (iI t)), some (.int (iI k))] [] (0, 0) w) i
    (fun k t => t = ((inR (fun q => d (i * 11 + q)) j k : Nat) : Int)) (fun o => o = some (.int (iI ((inR (fun q => d (i * 11 + q)) j i : Nat) : Int)), w)) (fun k t u hk hp => Or.inr ⟨((inR (fun q => d (i * 11 + q)) j (k + 1) : Nat) : Int), (), ?_, rfl⟩) (fun t u hp => ?_) 0 () rfl
  · have cv := (hc (i * 11 + k) (by omega)).2
    rw [q_M_inRow_5]
    refine s_lef (by omega) (s_g rfl (s_I (r_d hG h i k (by omega)) ?_))
    show _ = xr M_inRow 0 5 [some (.ref 34), some (.int (iI (i : Int))), some (.int (iI (j : Int))), some (.int (iI (((if d (i * 11 + k) = j then 1 else inR (fun q => d (i * 11 + q)) j k) : Nat) : Int))), some (.int (iI ((k + 1 : Nat) : Int)))] [] (0, 0) w
    by_cases q : d (i * 11 + k) = j
    · refine s_eqt q ?_
      rw [q_M_inRow_27, iI_add, if_pos q]; rfl
    · refine s_eqf (by omega) ?_
      rw [q_M_inRow_26, q_M_inRow_27, iI_add, if_neg q, hp]; rfl
  · rw [q_M_inRow_5]
    refine s_let (by omega) ?_
    rw [q_M_inRow_34, hp]
theorem dA_take {s n : Nat} {d : Nat → Int} (hs : s ≤ 2) (h : faultD s n d = 0) {i j : Nat} (hi : i < n) (hj : j < n) : dA (takeC s d) i j = (match s with
    | 0 => d (i * 11 + j)
    | 1 => d ((i + 1) * 11 + (j + 1)) - d (i * 11 + (j + 1)) - d ((i + 1) * 11 + j) + d (i * 11 + j)
    | _ => ((inR (fun q => d ((i + 1) * 11 + q)) j (i + 1) : Nat) : Int) - ((inR (fun q => d (i * 11 + q)) j i : Nat) : Int)) := by
  have e : dA (takeC s d) i j = (takeC s d (i + 1) (j + 1) - takeC s d (i + 1) j) - (takeC s d i (j + 1) - takeC s d i j) := by unfold dA; omega
  match s, hs with
  | 0, _ =>
    unfold dA
    show (takeC 0 d i (j + 1) + (sumF (fun c => d (i * 11 + c)) j + d (i * 11 + j))) - takeC 0 d i (j + 1) - (takeC 0 d i j + sumF (fun c => d (i * 11 + c)) j - takeC 0 d i j) = d (i * 11 + j)
    omega
  | 1, _ =>
    unfold dA
    show d ((i + 1) * 11 + (j + 1)) - d (i * 11 + (j + 1)) - (d ((i + 1) * 11 + j) - d (i * 11 + j)) = d ((i + 1) * 11 + (j + 1)) - d (i * 11 + (j + 1)) - d ((i + 1) * 11 + j) + d (i * 11 + j)
    omega
  | 2, _ => rw [e, uD_take (s := 2) (by omega) h (by omega) hj, uD_take (s := 2) (by omega) h (by omega) hj]; rfl
theorem dA_take0 {s n : Nat} {d : Nat → Int} (e : s = 0) (h : faultD s n d = 0) {i j : Nat} (hi : i < n) (hj : j < n) : dA (takeC s d) i j = d (i * 11 + j) := by
  subst e; exact dA_take (by omega) h hi hj
theorem dA_take1 {s n : Nat} {d : Nat → Int} (e : s = 1) (h : faultD s n d = 0) {i j : Nat} (hi : i < n) (hj : j < n) : dA (takeC s d) i j = d ((i + 1) * 11 + (j + 1)) - d (i * 11 + (j + 1)) - d ((i + 1) * 11 + j) + d (i * 11 + j) := by
  subst e; exact dA_take (by omega) h hi hj
theorem dA_take2 {s n : Nat} {d : Nat → Int} (e : s = 2) (h : faultD s n d = 0) {i j : Nat} (hi : i < n) (hj : j < n) : dA (takeC s d) i j = ((inR (fun q => d ((i + 1) * 11 + q)) j (i + 1) : Nat) : Int) - ((inR (fun q => d (i * 11 + q)) j i : Nat) : Int) := by
  subst e; exact dA_take (by omega) h hi hj
theorem IM_setT {w' : XW} {p n : Nat} {C : Nat → Nat → Int} (h : IM w A) (hp : p < 8) (hG : XG w') (ht : rt w' p n C) (h3 : xIF w' 34 3 = xIF w 34 3) (h4 : xIF w' 34 4 = xIF w 34 4) (h7 : xIA w' 37 = xIA w 37) (h5 : ∀ q, q ≠ p → xIA w' 35 q = xIA w 35 q) (h6 : ∀ q k, q ≠ p → k < 100 → xIA w' 36 (q * 100 + k) = xIA w 36 (q * 100 + k)) : IM w' (setT A p n C) := by
  refine ⟨hG, fun q hq => ?_, h.2.2.1, h.2.2.2.1, by rw [h3]; exact h.2.2.2.2.1, by rw [h4]; exact h.2.2.2.2.2.1, by rw [h7]; exact h.2.2.2.2.2.2⟩
  show rt w' q (if q = p then n else A.1 q) (if q = p then C else A.2.1 q)
  by_cases e : q = p
  · rw [if_pos e, if_pos e, e]; exact ht
  · rw [if_neg e, if_neg e]
    have g := h.2.1 q hq
    have gn := g.1
    refine ⟨g.1, g.2.1, by rw [h5 q e]; exact g.2.2.1, fun i j hi hj => ?_⟩
    rw [show (q * 10 + i) * 10 + j = q * 100 + (i * 10 + j) by omega, h6 q (i * 10 + j) e (by omega), show q * 100 + (i * 10 + j) = (q * 10 + i) * 10 + j by omega]
    exact g.2.2.2 i j hi hj
/-- a table's entries, written one by one -/
def rOut (w w' : XW) (p : Nat) : Prop := xIF w' 34 3 = xIF w 34 3 ∧ xIF w' 34 4 = xIF w 34 4 ∧ xIA w' 37 = xIA w 37 ∧ (∀ q, q ≠ p → xIA w' 35 q = xIA w 35 q) ∧ ∀ q k, q ≠ p → k < 100 → xIA w' 36 (q * 100 + k) = xIA w 36 (q * 100 + k)
theorem rOut.rf (w : XW) (p : Nat) : rOut w w p := ⟨rfl, rfl, rfl, fun _ _ => rfl, fun _ _ _ _ => rfl⟩
theorem rOut.tr {w w1 w2 : XW} {p : Nat} (h : rOut w w1 p) (g : rOut w1 w2 p) : rOut w w2 p := ⟨g.1.trans h.1, g.2.1.trans h.2.1, g.2.2.1.trans h.2.2.1, fun q hq => (g.2.2.2.1 q hq).trans (h.2.2.2.1 q hq), fun q k hq hk => (g.2.2.2.2 q k hq hk).trans (h.2.2.2.2 q k hq hk)⟩
theorem rOut_a {w : XW} {p i j : Nat} {v : Int32} (hi : i < 10) (hj : j < 10) : rOut w (xpI w 36 ((p * 10 + i) * 10 + j) v) p :=
  ⟨rfl, rfl, funext fun k => (by rw [a_pI, if_neg (by decide)]), fun q hq => (by rw [a_pI, if_neg (by decide)]), fun q k hq hk => (by rw [a_pI, if_pos rfl, if_neg (by omega)])⟩
theorem rOut_s {w : XW} {p : Nat} {v : Int32} : rOut w (xpI w 35 p v) p :=
  ⟨rfl, rfl, funext fun k => (by rw [a_pI, if_neg (by decide)]), fun q hq => (by rw [a_pI, if_pos rfl, if_neg hq]), fun q k hq hk => (by rw [a_pI, if_neg (by decide)])⟩
theorem rd.out {w w' : XW} {p s n : Nat} {d : Nat → Int} (h : rd w s n d) (o : rOut w w' p) : rd w' s n d := ⟨h.1, h.2.1, by rw [o.1]; exact h.2.2.1, by rw [o.2.1]; exact h.2.2.2.1, by rw [o.2.2.1]; exact h.2.2.2.2⟩
theorem r_take (h : IM w A) {z : Int} (hz : i32 z) : ∃ w', xm M_take 0 [.ref 34, .int (iI z)] w = some (.int (bI (o_take A z).1), w') ∧ IM w' (o_take A z).2 ∧ mFr w w' := by
  have h0 := IM_F (k := 0) (v := iI 0) h (by decide)
  have f0 : mFr w (xpF w 34 0 (iI 0)) := mFr_F (by decide)
  have h1 := IM_F (k := 0) (v := iI 0) h0 (by decide)
  have f1 : mFr w (xpF (xpF w 34 0 (iI 0)) 34 0 (iI 0)) := f0.tr (mFr_F (by decide))
  rw [e_M_take, q_M_take_0]
  by_cases g1 : 0 ≤ z ∧ z < 8
  · refine Exists.imp (fun _ hw => hw) ?_
    have fb := fault_bd (d := A.2.2.2.2) h.2.2.2.1.2 h.2.2.1
    by_cases g2 : o_fault A = 0
    · rw [show o_take A z = (true, setT A z.toNat A.2.2.2.1 (takeC A.2.2.1 A.2.2.2.2)) from if_pos ⟨g1, g2⟩]
      generalize ht : xpF (xpF w 34 0 (iI 0)) 34 0 (iI 0) = t at *
      have hd := h1.2.2
      have hn := hd.2.1
      have key : ∃ w', xr M_take 0 29 [some (.ref 34), some (.int (iI z)), some (.int (iI ((0 : Nat) : Int))), none, none] [] (0, 0) (xpI t 35 z.toNat (iI (A.2.2.2.1 : Int))) = some (.int (bI true), w') ∧ mFr w w' ∧ rOut t w' z.toNat ∧ xIA w' 35 z.toNat = iI (A.2.2.2.1 : Int) ∧ ∀ i j, i < A.2.2.2.1 → j < A.2.2.2.1 → xIA w' 36 ((z.toNat * 10 + i) * 10 + j) = iI (dA (takeC A.2.2.1 A.2.2.2.2) i j) := by
        refine x_nest (fun (i : Nat) (s : XW) (u : Option Value × Option Value) => xr M_take 0 29 [some (.ref 34), some (.int (iI z)), some (.int (iI i)), u.1, u.2] [] (0, 0) s)
          (fun (i j : Nat) (s : XW) (u : Option Value) => xr M_take 0 39 [some (.ref 34), some (.int (iI z)), some (.int (iI i)), some (.int (iI j)), u] [] (0, 0) s) A.2.2.2.1 (fun _ => A.2.2.2.1)
          (fun i j s => mFr w s ∧ rOut t s z.toNat ∧ xIA s 35 z.toNat = iI (A.2.2.2.1 : Int) ∧ ∀ r c, (r < i ∧ c < A.2.2.2.1) ∨ (r = i ∧ c < j) → xIA s 36 ((z.toNat * 10 + r) * 10 + c) = iI (dA (takeC A.2.2.1 A.2.2.2.2) r c)) (fun o => ∃ w', o = some (.int (bI true), w') ∧ mFr w w' ∧ rOut t w' z.toNat ∧ xIA w' 35 z.toNat = iI (A.2.2.2.1 : Int) ∧ ∀ i j, i < A.2.2.2.1 → j < A.2.2.2.1 → xIA w' 36 ((z.toNat * 10 + i) * 10 + j) = iI (dA (takeC A.2.2.1 A.2.2.2.2) i j))
          (fun i s u hi hp => ⟨u.2, ?_⟩) (fun i j s v hi hj hp => Or.inr ?_) (fun i s v hi hp => ⟨(some (.int (iI (A.2.2.2.1 : Int))), v), ?_, hp.1, hp.2.1, hp.2.2.1, fun r c hr => ?_⟩) (fun s u hp => ⟨s, ?_, hp.1, hp.2.1, hp.2.2.1, fun i j hi hj => hp.2.2.2 i j (Or.inl ⟨hi, hj⟩)⟩) (xpI t 35 z.toNat (iI (A.2.2.2.1 : Int))) (none, none) ⟨f1.tr (mFr_I (by decide)), rOut_s, by rw [a_pI, if_pos rfl, if_pos rfl], fun r c hr => by omega⟩
        · have hds := hd.out hp.2.1
          rw [q_M_take_29, hds.2.2.2.1]
          exact s_g rfl (s_lef (by omega) rfl)
        · obtain ⟨p1, p2, p3, p4⟩ := hp
          have hds := hd.out p2
          have hG := p1.1.G h.1
          refine ⟨xpI s 36 ((z.toNat * 10 + i) * 10 + j) (iI (dA (takeC A.2.2.1 A.2.2.2.2) i j)), some (.int (iI (dA (takeC A.2.2.1 A.2.2.2.2) i j))), ?_, p1.tr (mFr_I (by decide)), p2.tr (rOut_a (by omega) (by omega)), ?_, fun r c hr => ?_⟩
          · have last : xr M_take 0 125 [some (.ref 34), some (.int (iI z)), some (.int (iI i)), some (.int (iI j)), some (.int (iI (dA (takeC A.2.2.1 A.2.2.2.2) i j)))] [] (0, 0) s = xr M_take 0 39 [some (.ref 34), some (.int (iI z)), some (.int (iI i)), some (.int (iI ((j + 1 : Nat) : Int))), some (.int (iI (dA (takeC A.2.2.1 A.2.2.2.2) i j)))] [] (0, 0) (xpI s 36 ((z.toNat * 10 + i) * 10 + j) (iI (dA (takeC A.2.2.1 A.2.2.2.2) i j))) := by
              rw [q_M_take_125]
              refine s_g rfl (s_V (r_aw hG z.toNat i j (by omega) _) ?_)
              rw [iI_add]; rfl
            rw [q_M_take_39, hds.2.2.2.1]
            refine s_g rfl (s_lef (by omega) (s_g rfl (s_I (r_d hG hds i j (by omega)) (s_g rfl ?_))))
            rw [hds.2.2.1]
            rcases (show A.2.2.1 = 0 ∨ A.2.2.1 = 1 ∨ A.2.2.1 = 2 by have := hd.1; omega) with e | e | e
            · refine s_eqf (by omega) ?_
              rw [q_M_take_100, hds.2.2.1]
              refine s_g rfl (s_eqf (by omega) ?_)
              rw [← dA_take0 e g2 hi hj]; exact last
            · refine s_eqt (by omega) ?_
              simp only [iI_add]
              refine s_g rfl (s_I (r_d hG hds (i + 1) (j + 1) (by omega)) (s_g rfl (s_I (r_d hG hds i (j + 1) (by omega)) (s_g rfl (s_I (r_d hG hds (i + 1) j (by omega)) (s_g rfl (s_I (r_d hG hds i j (by omega)) ?_)))))))
              rw [q_M_take_100, hds.2.2.1]
              simp only [iI_sub, iI_add]
              refine s_g rfl (s_eqf (by omega) ?_)
              rw [← dA_take1 e g2 hi hj]; exact last
            · refine s_eqf (by omega) ?_
              rw [q_M_take_100, hds.2.2.1]
              refine s_g rfl (s_eqt (by omega) ?_)
              rw [iI_add]
              refine s_g rfl (s_I (r_inRow hG hds (i + 1) j (by omega)) (s_g rfl (s_I (r_inRow hG hds i j (by omega)) ?_)))
              rw [iI_sub, ← dA_take2 e g2 hi hj]; exact last
          · rw [a_pI, if_neg (by decide)]; exact p3
          · rw [a_pI, if_pos rfl]
            by_cases e : r = i ∧ c = j
            · rw [if_pos (by rw [e.1, e.2]), e.1, e.2]
            · rw [if_neg (by omega)]; exact p4 r c (by omega)
        · have hds := hd.out hp.2.1
          rw [q_M_take_39, hds.2.2.2.1]
          refine s_g rfl (s_let (by omega) ?_)
          rw [q_M_take_140, iI_add]; rfl
        · exact hp.2.2.2 r c (by omega)
        · have hds := hd.out hp.2.1
          rw [q_M_take_29, hds.2.2.2.1]
          refine s_g rfl (s_let (by omega) ?_)
          rw [q_M_take_146, xbz_1]
      obtain ⟨w', k1, k2, k3, k4, k5⟩ := key
      refine ⟨w', s_g rfl (s_I (r_knows hz) (s_pt g1 (s_g rfl (s_I (r_fault h0) ?_)))), IM_setT h1 (by omega) (k2.1.G h.1) ⟨hn, asm_take hd.1 g2, k4, k5⟩ k3.1 k3.2.1 k3.2.2.1 k3.2.2.2.1 k3.2.2.2.2, k2⟩
      rw [iI_zero]
      refine s_eqt g2 ?_
      rw [ht, q_M_take_17, hd.2.2.2.1, iI_nat (by omega)]
      exact s_g rfl (s_o (h1.1.r (by decide) rfl) (s_g rfl (s_g (xin_t (n := 8) (by omega)) k1)))
    · rw [show o_take A z = (false, A) from if_neg (fun q => g2 q.2)]
      refine ⟨_, s_g rfl (s_I (r_knows hz) (s_pt g1 (s_g rfl (s_I (r_fault h0) ?_)))), h1, f1⟩
      have g3 : faultD A.2.2.1 A.2.2.2.1 A.2.2.2.2 ≠ 0 := g2
      have g4 : o_fault A = faultD A.2.2.1 A.2.2.2.1 A.2.2.2.2 := rfl
      rw [iI_zero]
      refine s_eqf (by omega) ?_
      rw [q_M_take_15, xbz_0]
  · rw [show o_take A z = (false, A) from if_neg (fun q => g1 q.1)]
    refine ⟨_, s_g rfl (s_I (r_knows hz) (s_pf g1 ?_)), h0, f0⟩
    rw [q_M_take_15, xbz_0]
end XMOD
