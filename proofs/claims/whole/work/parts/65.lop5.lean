/-! ===== LOOPS, 5 (own work): link and rings of the class; the steps of the reference ===== -/
def o_link (A : AS) (z e : Int) : Int := if (0 ≤ z ∧ z < 8) ∧ (0 ≤ e ∧ e ≤ 2 * (A.1 z.toNat : Int) - 1) then (lkD (A.1 z.toNat) (A.2.1 z.toNat) e.toNat : Nat) else -1
noncomputable def o_rings (A : AS) (z : Int) : Int := if 0 ≤ z ∧ z < 8 then (rgN (A.1 z.toNat) (A.2.1 z.toNat) (A.1 z.toNat) : Nat) else -1
theorem IC_oS {w w' : XW} {A : AS} (h : IC w A) (f : xFr oS w w') : IC w' A := IC_fr h f (fun q hq => oS_no (by omega))
section XLOP5
variable {w : XW} {A : AS} {B : Nat}
theorem c_link (h : IC w A) (hP : lpI w B) (hB : B + 1 < 2147483648) {z e : Int} (hz : i32 z) (he : i32 e) : ∃ w', xm B_link 0 [.ref 0, .int (iI z), .int (iI e)] w = some (.int (iI (o_link A z e)), w') ∧ IC w' A ∧ lpI w' (B + 1) ∧ xFr oS w w' := by
  rw [e_B_link, q_B_link_0]
  unfold o_link
  by_cases h1 : 0 ≤ z ∧ z < 8
  · have t := (h.2.1 z.toNat (by omega)).1
    have hn := t.2.2.1
    by_cases h2 : 0 ≤ e ∧ e ≤ 2 * (A.1 z.toNat : Int) - 1
    · rw [if_pos ⟨h1, h2⟩]
      obtain ⟨w', k1, k2, k3⟩ := l_otherEnd t hP hB (e := e.toNat) (by omega) (ze := e) (by omega)
      refine ⟨w', s_g rfl (s_A (c_tab h.1 z.toNat (by omega)) (s_g rfl (s_g rfl (s_nr (s_g rfl (s_de (s_g (T_ok t.1) ?_))))))), IC_oS h k3, k2, k3⟩
      rw [t.2.2.2.1, iI_mul, iI_sub]
      refine s_I (m_isWithin he (by omega) (by omega) w) (s_pt h2 ?_)
      rw [q_B_link_28]
      exact s_g rfl (s_o (h.1.r (by decide) rfl) (s_g rfl (s_g rfl (s_g rfl (s_I k1 rfl)))))
    · rw [if_neg (fun q => h2 q.2)]
      refine ⟨w, s_g rfl (s_A (c_tab h.1 z.toNat (by omega)) (s_g rfl (s_g rfl (s_nr (s_g rfl (s_de (s_g (T_ok t.1) ?_))))))), h, lpI_mono hP (by omega), xFr.rf _ _⟩
      rw [t.2.2.2.1, iI_mul, iI_sub]
      refine s_I (m_isWithin he (by omega) (by omega) w) (s_pf h2 ?_)
      rw [q_B_link_26]
  · rw [if_neg (fun q => h1 q.1)]
    refine ⟨w, s_g rfl (s_An (c_tabN hz h1) (s_g rfl (s_g rfl (s_nn ?_)))), h, lpI_mono hP (by omega), xFr.rf _ _⟩
    rw [q_B_link_26]
theorem c_rings (h : IC w A) (hP : lpI w B) (hB : B + 1 < 2147483648) {z : Int} (hz : i32 z) : ∃ w', xm B_rings 0 [.ref 0, .int (iI z)] w = some (.int (iI (o_rings A z)), w') ∧ IC w' A ∧ lpI w' (B + 1) ∧ xFr oS w w' := by
  rw [e_B_rings, q_B_rings_0]
  unfold o_rings
  by_cases h1 : 0 ≤ z ∧ z < 8
  · have t := (h.2.1 z.toNat (by omega)).1
    rw [if_pos h1]
    obtain ⟨w', k1, k2, k3⟩ := l_rings t hP hB
    refine ⟨w', s_g rfl (s_A (c_tab h.1 z.toNat (by omega)) (s_g rfl (s_g rfl (s_nr ?_)))), IC_oS h k3, k2, k3⟩
    rw [q_B_rings_14]
    refine s_g rfl (s_o (h.1.r (by decide) rfl) (s_g rfl (s_g rfl (s_g rfl (s_I k1 ?_)))))
    rw [q_B_rings_22]
  · rw [if_neg h1]
    refine ⟨w, s_g rfl (s_An (c_tabN hz h1) (s_g rfl (s_g rfl (s_nn ?_)))), h, lpI_mono hP (by omega), xFr.rf _ _⟩
    rw [q_B_rings_22]
end XLOP5
/-! codes of edges -/
def cdE (l : Bool) (i j : Nat) : Nat := (if l = true then 0 else 10000) + 100 * i + j
def cdS (r c d : Nat) : Nat := match d with
  | 0 => cdE false r c
  | 1 => cdE true r (c + 1)
  | 2 => cdE false (r + 1) c
  | _ => cdE true r c
section XLOP5B
variable {w : XW} {n p : Nat} {C : Nat → Nat → Int}
theorem r_edge (l : Bool) {x : Int32} (hx : x = bI l) {zi zj : Int} (i j : Nat) (hh : zi = i ∧ zj = j) : xm M_edge 0 [.int x, .int (iI zi), .int (iI zj)] w = some (.int (iI (cdE l i j : Nat)), w) := by
  subst hx
  obtain ⟨rfl, rfl⟩ := hh
  rw [e_M_edge, q_M_edge_0, iI_mul, iI_add]
  unfold cdE
  cases l with
  | true =>
    refine s_bt rfl ?_
    rw [q_M_edge_17, iI_add, if_pos rfl, show 100 * (i : Int) + j + 0 = ((0 + 100 * i + j : Nat) : Int) by omega]
  | false =>
    refine s_bf rfl ?_
    rw [q_M_edge_14, q_M_edge_17, iI_add, if_neg (by decide), show 100 * (i : Int) + j + 10000 = ((10000 + 100 * i + j : Nat) : Int) by omega]
theorem r_isInside (hG : XG w) (h : rt w p n C) {z zi zj : Int} (hz : z = p ∧ p < 8) (hi : i32 zi) (hj : i32 zj) : xm M_isInside 0 [.ref 34, .int (iI z), .int (iI zi), .int (iI zj)] w = some (.int (bI (decide ((0 ≤ zi ∧ zi < n) ∧ (0 ≤ zj ∧ zj < n)))), w) := by
  have hn := h.1
  obtain ⟨g1, g2, g3⟩ := r_sizes hG h hz
  rw [e_M_isInside, q_M_isInside_0, iI_zero]
  have no : ¬ ((0 ≤ zi ∧ zi < n) ∧ (0 ≤ zj ∧ zj < n)) → xr M_isInside 0 32 [some (.ref 34), some (.int (iI z)), some (.int (iI zi)), some (.int (iI zj))] [] (0, 0) w = some (.int (bI (decide ((0 ≤ zi ∧ zi < n) ∧ (0 ≤ zj ∧ zj < n)))), w) := fun q => by
    rw [q_M_isInside_32, q_M_isInside_33, xbz_0, decide_eq_false q]
  by_cases h1 : zi < 0
  · exact s_ltt (by omega) (no (by omega))
  · refine s_ltf (by omega) ?_
    by_cases h2 : zj < 0
    · exact s_ltt (by omega) (no (by omega))
    · refine s_ltf (by omega) (s_g rfl (s_o g1 (s_g g2 ?_)))
      rw [g3]
      by_cases h3 : (n : Int) ≤ zi
      · exact s_let (by omega) (no (by omega))
      · refine s_lef (by omega) (s_g rfl (s_o g1 (s_g g2 ?_)))
        rw [g3]
        by_cases h4 : (n : Int) ≤ zj
        · exact s_let (by omega) (no (by omega))
        · refine s_lef (by omega) ?_
          rw [q_M_isInside_33, xbz_1, decide_eq_true (by omega)]
/-- the edge of number k, gone round the board -/
def egR (n k : Nat) : Bool × Nat × Nat := if k < n then (false, 0, k) else if k < 2 * n then (true, k - n, n) else if k < 3 * n then (false, n, n - 1 - (k - 2 * n)) else (true, n - 1 - (k - 3 * n), 0)
theorem eg_ok (h : asm n C) {k : Nat} (hk : k < 4 * n) : eOk n (egR n k).1 (egR n k).2.1 (egR n k).2.2 ∧ hd C (egR n k).1 (egR n k).2.1 (egR n k).2.2 = decide (k % 2 = 1) := by
  unfold egR
  by_cases h1 : k < n
  · rw [if_pos h1]
    exact ⟨show 0 ≤ n ∧ k < n by omega, hd_up h h1⟩
  · rw [if_neg h1]
    by_cases h2 : k < 2 * n
    · rw [if_pos h2]
      refine ⟨show k - n < n ∧ n ≤ n by omega, ?_⟩
      show hd C true (k - n) n = _
      rw [hd_rt h (by omega)]
      exact decide_eq_decide.mpr (by omega)
    · rw [if_neg h2]
      by_cases h3 : k < 3 * n
      · rw [if_pos h3]
        refine ⟨show n ≤ n ∧ n - 1 - (k - 2 * n) < n by omega, ?_⟩
        show hd C false n (n - 1 - (k - 2 * n)) = _
        rw [hd_dn h (by omega)]
        exact decide_eq_decide.mpr (by omega)
      · rw [if_neg h3]
        refine ⟨show n - 1 - (k - 3 * n) < n ∧ 0 ≤ n by omega, ?_⟩
        show hd C true (n - 1 - (k - 3 * n)) 0 = _
        rw [hd_lf h (by omega)]
        exact decide_eq_decide.mpr (by omega)
def cdN (n e : Nat) : Nat := cdE (egR n (2 * e + 1)).1 (egR n (2 * e + 1)).2.1 (egR n (2 * e + 1)).2.2
theorem cdN_en {e : Nat} (he : e < 2 * n) : cdN n e = cdS (enD n e).1 (enD n e).2.1 (enD n e).2.2 := by
  unfold cdN egR enD
  by_cases h1 : 2 * e + 1 < n
  · rw [if_pos h1, if_pos h1]; rfl
  · rw [if_neg h1, if_neg h1]
    by_cases h2 : 2 * e + 1 < 2 * n
    · rw [if_pos h2, if_pos h2]
      show cdE true _ n = cdE true _ (n - 1 + 1)
      rw [show n - 1 + 1 = n by omega]
    · rw [if_neg h2, if_neg h2]
      by_cases h3 : 2 * e + 1 < 3 * n
      · rw [if_pos h3, if_pos h3]
        show cdE false n _ = cdE false (n - 1 + 1) _
        rw [show n - 1 + 1 = n by omega]
      · rw [if_neg h3, if_neg h3]; rfl
theorem cdN_inj (hn : n ≤ 10) {e f : Nat} (he : e < 2 * n) (hf : f < 2 * n) (h : cdN n e = cdN n f) : e = f := by
  have v : ∀ e, e < 2 * n → cdN n e = if 2 * e + 1 < n then 10000 + 100 * 0 + (2 * e + 1) else if 2 * e + 1 < 2 * n then 0 + 100 * (2 * e + 1 - n) + n else if 2 * e + 1 < 3 * n then 10000 + 100 * n + (n - 1 - (2 * e + 1 - 2 * n)) else 0 + 100 * (n - 1 - (2 * e + 1 - 3 * n)) + 0 := fun e he => by
    unfold cdN egR
    split
    · rfl
    · split
      · rfl
      · split <;> rfl
  rw [v e he, v f hf] at h
  split at h <;> split at h <;> (try split at h) <;> (try split at h) <;> (try split at h) <;> (try split at h) <;> omega
theorem cdN_le (hn : n ≤ 10) {e : Nat} (he : e < 2 * n) : cdN n e < 20000 := by
  unfold cdN egR
  split
  · show 10000 + 100 * 0 + (2 * e + 1) < 20000; omega
  · split
    · show 0 + 100 * (2 * e + 1 - n) + n < 20000; omega
    · split
      · show 10000 + 100 * n + (n - 1 - (2 * e + 1 - 2 * n)) < 20000; omega
      · show 0 + 100 * (n - 1 - (2 * e + 1 - 3 * n)) + 0 < 20000; omega
theorem r_endStep (hG : XG w) (h : rt w p n C) (hp : p < 8) {e k c : Nat} (he : e < 2 * n) (hk : k < 4 * n) (u : Option Value × Option Value × Option Value × Option Value) : ∃ v6 : Int32, xr M_end 0 13 [some (.ref 34), some (.int (iI (p : Int))), some (.int (iI (e : Int))), some (.int (iI (n : Int))), some (.int (iI (c : Int))), some (.int (iI (k : Int))), u.1, u.2.1, u.2.2.1, u.2.2.2] [] (0, 0) w = (if (decide (k % 2 = 1)) = true then xr M_end 0 151 [some (.ref 34), some (.int (iI (p : Int))), some (.int (iI (e : Int))), some (.int (iI (n : Int))), some (.int (iI (c : Int))), some (.int (iI (k : Int))), some (.int v6), some (.int (bI (egR n k).1)), some (.int (iI ((egR n k).2.1 : Nat))), some (.int (iI ((egR n k).2.2 : Nat)))] [] (0, 0) w else xr M_end 0 170 [some (.ref 34), some (.int (iI (p : Int))), some (.int (iI (e : Int))), some (.int (iI (n : Int))), some (.int (iI (c : Int))), some (.int (iI (k : Int))), some (.int v6), some (.int (bI (egR n k).1)), some (.int (iI ((egR n k).2.1 : Nat))), some (.int (iI ((egR n k).2.2 : Nat)))] [] (0, 0) w) := by
  have hn := h.1
  obtain ⟨g1, g2⟩ := eg_ok h.2.1 hk
  have nz : ¬ iI (n : Int) = 0 := by
    rw [iI_zero]; intro q
    have := (iI_eq (a := (n : Int)) (b := 0) (by omega) (by omega)).mp q
    omega
  have fin : ∀ v6 : Int32, xr M_end 0 132 [some (.ref 34), some (.int (iI (p : Int))), some (.int (iI (e : Int))), some (.int (iI (n : Int))), some (.int (iI (c : Int))), some (.int (iI (k : Int))), some (.int v6), some (.int (bI (egR n k).1)), some (.int (iI ((egR n k).2.1 : Nat))), u.2.2.2] [.int (iI ((egR n k).2.2 : Nat))] (0, 0) w = (if (decide (k % 2 = 1)) = true then xr M_end 0 151 [some (.ref 34), some (.int (iI (p : Int))), some (.int (iI (e : Int))), some (.int (iI (n : Int))), some (.int (iI (c : Int))), some (.int (iI (k : Int))), some (.int v6), some (.int (bI (egR n k).1)), some (.int (iI ((egR n k).2.1 : Nat))), some (.int (iI ((egR n k).2.2 : Nat)))] [] (0, 0) w else xr M_end 0 170 [some (.ref 34), some (.int (iI (p : Int))), some (.int (iI (e : Int))), some (.int (iI (n : Int))), some (.int (iI (c : Int))), some (.int (iI (k : Int))), some (.int v6), some (.int (bI (egR n k).1)), some (.int (iI ((egR n k).2.1 : Nat))), some (.int (iI ((egR n k).2.2 : Nat)))] [] (0, 0) w) := fun v6 => by
    rw [q_M_end_132]
    refine s_g rfl (s_I (r_isHeld hG h hp (egR n k).1 rfl (egR n k).2.1 (egR n k).2.2 ⟨rfl, rfl, rfl⟩ g1) ?_)
    rw [g2]
    cases decide (k % 2 = 1) with
    | true => exact s_bt rfl rfl
    | false => exact s_bf rfl rfl
  have dv : ∀ q : Nat, q * n ≤ k → k < (q + 1) * n → iI (k : Int) / iI (n : Int) = iI (q : Int) ∧ iI (k : Int) - iI (k : Int) / iI (n : Int) * iI (n : Int) = iI ((k - q * n : Nat) : Int) := fun q h1 h2 => by
    have hd : (k : Int) / (n : Int) = q := by
      rw [← Int.natCast_ediv]
      congr 1
      refine (Nat.div_eq_iff (by omega)).mpr ⟨by omega, ?_⟩
      rw [Nat.succ_mul] at h2
      omega
    have e1 : iI (k : Int) / iI (n : Int) = iI (q : Int) := by rw [iI_div (by omega) (by omega), hd]
    refine ⟨e1, ?_⟩
    rw [e1, iI_mul, iI_sub]
    congr 1
    rw [Int.natCast_sub h1, Int.natCast_mul]
  rw [q_M_end_13, iI_mul, iI_zero]
  unfold egR at fin ⊢
  by_cases h1 : k < n
  · obtain ⟨d1, d2⟩ := dv 0 (by omega) (by omega)
    rw [if_pos h1] at fin ⊢
    refine ⟨iI ((k - 0 * n : Nat) : Int), s_lef (by omega) (s_ltf (by omega) (s_f (by rw [iI_zero] at nz; exact nz) (s_f (by rw [iI_zero] at nz; exact nz) (s_f (by decide) ?_))))⟩
    rw [d2, d1]
    refine s_f (by decide) ?_
    rw [q_M_end_45, q_M_end_46]
    refine s_lef (by omega) ?_
    rw [q_M_end_89]
    refine s_lef (by omega) ?_
    have f := fin (iI ((k - 0 * n : Nat) : Int))
    dsimp only at f ⊢
    rw [← f]
    congr 3
    rw [Nat.zero_mul]; rfl
  · rw [if_neg h1] at fin ⊢
    by_cases h2 : k < 2 * n
    · obtain ⟨d1, d2⟩ := dv 1 (by omega) (by omega)
      rw [if_pos h2] at fin ⊢
      refine ⟨iI ((k - 1 * n : Nat) : Int), s_lef (by omega) (s_ltf (by omega) (s_f (by rw [iI_zero] at nz; exact nz) (s_f (by rw [iI_zero] at nz; exact nz) (s_f (by decide) ?_))))⟩
      rw [d2, d1]
      refine s_t (by decide) ?_
      rw [q_M_end_46]
      refine s_let (by omega) ?_
      rw [q_M_end_58, iI_mul]
      refine s_lef (by omega) ?_
      rw [q_M_end_89]
      refine s_let (by omega) ?_
      rw [q_M_end_102, iI_mul]
      refine s_lef (by omega) ?_
      have f := fin (iI ((k - 1 * n : Nat) : Int))
      dsimp only at f ⊢
      rw [Nat.one_mul] at f ⊢
      exact f
    · rw [if_neg h2] at fin ⊢
      by_cases h3 : k < 3 * n
      · obtain ⟨d1, d2⟩ := dv 2 (by omega) (by omega)
        rw [if_pos h3] at fin ⊢
        refine ⟨iI ((k - 2 * n : Nat) : Int), s_lef (by omega) (s_ltf (by omega) (s_f (by rw [iI_zero] at nz; exact nz) (s_f (by rw [iI_zero] at nz; exact nz) (s_f (by decide) ?_))))⟩
        rw [d2, d1]
        refine s_f (by decide) ?_
        rw [q_M_end_45, q_M_end_46]
        refine s_let (by omega) ?_
        rw [q_M_end_58, iI_mul]
        refine s_let (by omega) ?_
        rw [q_M_end_71, iI_mul]
        refine s_lef (by omega) ?_
        rw [q_M_end_89]
        refine s_let (by omega) ?_
        rw [q_M_end_102, iI_mul]
        refine s_let (by omega) ?_
        rw [q_M_end_114, iI_mul]
        refine s_lef (by omega) ?_
        rw [iI_sub, iI_sub, show (n : Int) - 1 - ((k - 2 * n : Nat) : Int) = ((n - 1 - (k - 2 * n) : Nat) : Int) by omega]
        exact fin (iI ((k - 2 * n : Nat) : Int))
      · obtain ⟨d1, d2⟩ := dv 3 (by omega) (by omega)
        rw [if_neg h3] at fin ⊢
        refine ⟨iI ((k - 3 * n : Nat) : Int), s_lef (by omega) (s_ltf (by omega) (s_f (by rw [iI_zero] at nz; exact nz) (s_f (by rw [iI_zero] at nz; exact nz) (s_f (by decide) ?_))))⟩
        rw [d2, d1]
        refine s_t (by decide) ?_
        rw [q_M_end_46]
        refine s_let (by omega) ?_
        rw [q_M_end_58, iI_mul]
        refine s_let (by omega) ?_
        rw [q_M_end_71, iI_mul]
        refine s_let (by omega) ?_
        rw [q_M_end_83, iI_sub, iI_sub, show (n : Int) - 1 - ((k - 3 * n : Nat) : Int) = ((n - 1 - (k - 3 * n) : Nat) : Int) by omega, q_M_end_89]
        refine s_let (by omega) ?_
        rw [q_M_end_102, iI_mul]
        refine s_let (by omega) ?_
        rw [q_M_end_114, iI_mul]
        refine s_let (by omega) ?_
        rw [q_M_end_131]
        exact fin (iI ((k - 3 * n : Nat) : Int))
theorem r_end (hG : XG w) (h : rt w p n C) (hp : p < 8) {e : Nat} (he : e < 2 * n) {z ze : Int} (hz : z = p ∧ ze = e) : xm M_end 0 [.ref 34, .int (iI z), .int (iI ze)] w = some (.int (iI (cdN n e : Nat)), w) := by
  obtain ⟨rfl, rfl⟩ := hz
  have hn := h.1
  obtain ⟨g1, g2, g3⟩ := r_sizes hG h (z := (p : Int)) ⟨rfl, hp⟩
  rw [e_M_end, q_M_end_0]
  refine s_g rfl (s_o g1 (s_g g2 ?_))
  rw [g3]
  refine x_loop (fun (k : Nat) (_ : Unit) (u : Option Value × Option Value × Option Value × Option Value) => xr M_end 0 13 [some (.ref 34), some (.int (iI (p : Int))), some (.int (iI (e : Int))), some (.int (iI (n : Int))), some (.int (iI ((k / 2 : Nat) : Int))), some (.int (iI (k : Int))), u.1, u.2.1, u.2.2.1, u.2.2.2] [] (0, 0) w) (2 * e + 1)
    (fun _ _ => True) (fun o => o = some (.int (iI (cdN n e : Nat)), w)) (fun k s u hk _ => Or.inr ?_) (fun s u _ => ?_) () (none, none, none, none) trivial
  · obtain ⟨v6, hv⟩ := r_endStep hG h hp (e := e) (k := k) (c := k / 2) he (by omega) u
    refine ⟨(), (some (.int v6), some (.int (bI (egR n k).1)), some (.int (iI ((egR n k).2.1 : Nat))), some (.int (iI ((egR n k).2.2 : Nat)))), ?_, trivial⟩
    refine Eq.trans hv ?_
    by_cases q : k % 2 = 1
    · refine s_t (decide_eq_true q) ?_
      rw [q_M_end_151]
      refine s_eqf (by omega) ?_
      rw [q_M_end_167, q_M_end_170, iI_add, iI_add, show ((k / 2 : Nat) : Int) + 1 = (((k + 1) / 2 : Nat) : Int) by omega]; rfl
    · refine s_f (by rw [decide_eq_false q]; decide) ?_
      rw [q_M_end_170, iI_add, show k / 2 = (k + 1) / 2 by omega]; rfl
  · obtain ⟨v6, hv⟩ := r_endStep hG h hp (e := e) (k := 2 * e + 1) (c := (2 * e + 1) / 2) he (by omega) u
    refine Eq.trans hv ?_
    refine s_t (decide_eq_true (by omega)) ?_
    rw [q_M_end_151]
    exact s_eqt (by omega) (s_I (r_edge _ rfl _ _ ⟨rfl, rfl⟩) rfl)
end XLOP5B
