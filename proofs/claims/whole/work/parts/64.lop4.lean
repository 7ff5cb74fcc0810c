/-! ===== LOOPS, 4 (own work): the class: joined ends, rings ===== -/
abbrev rcD (n : Nat) (C : Nat → Nat → Int) (v u : Nat) : Prop := rch (vdD n C) (nxD C) (exD n C) plD v u
abbrev clD (n : Nat) (C : Nat → Nat → Int) (Z : Nat → Prop) : Prop := clS (vdD n C) (nxD C) (exD n C) plD Z
def frsh (w : XW) (R : Nat) : Prop := ∀ j, j < 100 → ¬ xIA w 14 j = iI R
def Zm (n : Nat) (C : Nat → Nat → Int) (i j u : Nat) : Prop := (∃ e, e < 2 * n ∧ rcD n C (plD (enD n e)) u) ∨ ∃ a b, (a < i ∨ a = i ∧ b < j) ∧ (a < n ∧ b < n) ∧ rcD n C (a * 10 + b) u
noncomputable def rgB (n : Nat) (C : Nat → Nat → Int) (i j : Nat) : Nat := @ite Nat (Zm n C i j (i * 10 + j)) (Classical.propDecidable _) 0 1
noncomputable def rgN (n : Nat) (C : Nat → Nat → Int) (k : Nat) : Nat := sumN (fun i => sumN (rgB n C i) n) k
section XZM
variable {n : Nat} {C : Nat → Nat → Int}
theorem rgB_0 {i j : Nat} (h : Zm n C i j (i * 10 + j)) : rgB n C i j = 0 := by unfold rgB; rw [if_pos h]
theorem rgB_1 {i j : Nat} (h : ¬ Zm n C i j (i * 10 + j)) : rgB n C i j = 1 := by unfold rgB; rw [if_neg h]
theorem rgB_le (i j : Nat) : rgB n C i j ≤ 1 := by
  by_cases h : Zm n C i j (i * 10 + j)
  · rw [rgB_0 h]; exact Nat.zero_le _
  · rw [rgB_1 h]; exact Nat.le_refl _
theorem sumN_le {f : Nat → Nat} {b n : Nat} (h : ∀ k, k < n → f k ≤ b) : sumN f n ≤ n * b := by
  induction n with
  | zero => exact Nat.zero_le _
  | succ n ih =>
    have h1 := ih (fun k hk => h k (by omega))
    have h2 := h n (by omega)
    show sumN f n + f n ≤ (n + 1) * b
    rw [Nat.succ_mul]; omega
theorem rgN_le (k : Nat) : rgN n C k ≤ k * n := by
  refine sumN_le (fun i _ => ?_)
  have := sumN_le (f := rgB n C i) (b := 1) (n := n) (fun j _ => rgB_le i j)
  omega
theorem Zm_cl (i j : Nat) : clD n C (Zm n C i j) := by
  intro x hx he h
  rcases h with ⟨e, h1, h2⟩ | ⟨a, b, h1, h2, h3⟩
  · exact Or.inl ⟨e, h1, rch_cl _ x hx he h2⟩
  · exact Or.inr ⟨a, b, h1, h2, rch_cl _ x hx he h3⟩
theorem Zm_bd (h : asm n C) (i j : Nat) {y : DX} (hy : vdD n C y) (he : exD n C y = true) : Zm n C i j (plD y) := by
  have hr := rv_ok h hy
  obtain ⟨o1, o2⟩ := eh_ok h (r := y.1) (c := y.2.1) (d := oT C y.1 y.2.1 y.2.2) hr.1 he
  refine Or.inl ⟨_, o1, ?_⟩
  rw [o2]
  exact rch_rf _
theorem Zm_next {i j : Nat} (hi : i < n) (hj : j < n) (u : Nat) : (Zm n C i j u ∨ rcD n C (i * 10 + j) u) ↔ Zm n C i (j + 1) u := by
  constructor
  · rintro ((q | ⟨a, b, h1, h2, h3⟩) | q)
    · exact Or.inl q
    · exact Or.inr ⟨a, b, by omega, h2, h3⟩
    · exact Or.inr ⟨i, j, by omega, ⟨hi, hj⟩, q⟩
  · rintro (q | ⟨a, b, h1, h2, h3⟩)
    · exact Or.inl (Or.inl q)
    · by_cases e : a = i ∧ b = j
      · rw [e.1, e.2] at h3; exact Or.inr h3
      · exact Or.inl (Or.inr ⟨a, b, by omega, h2, h3⟩)
theorem Zm_skip {i j : Nat} (hi : i < n) (hj : j < n) (h : Zm n C i j (i * 10 + j)) (u : Nat) : Zm n C i j u ↔ Zm n C i (j + 1) u := by
  rw [← Zm_next hi hj u]
  exact ⟨Or.inl, fun q => q.elim id (fun z => z _ (Zm_cl i j) h)⟩
theorem Zm_row (i u : Nat) : Zm n C i n u ↔ Zm n C (i + 1) 0 u := by
  constructor
  · rintro (q | ⟨a, b, h1, h2, h3⟩)
    · exact Or.inl q
    · exact Or.inr ⟨a, b, by omega, h2, h3⟩
  · rintro (q | ⟨a, b, h1, h2, h3⟩)
    · exact Or.inl q
    · exact Or.inr ⟨a, b, by omega, h2, h3⟩
theorem Zm_zero (u : Nat) : (∃ e, e < 2 * n ∧ rcD n C (plD (enD n e)) u) ↔ Zm n C 0 0 u := by
  constructor
  · exact Or.inl
  · rintro (q | ⟨a, b, h1, h2, h3⟩)
    · exact q
    · omega
end XZM
section XLOP4
variable {w s : XW} {a n : Nat} {C : Nat → Nat → Int} {R : Nat} {x : DX} {P : Nat → Prop}
theorem isT_13 (h : isT a) : oS a = false ∧ oS (a + 1) = false ∧ a ≠ 13 := by
  unfold isT at h
  exact ⟨oS_no (by omega), oS_no (by omega), by omega⟩
theorem f_run (h : tb s a n C) (hx : vdD n C x) (hL : lsD s R x) : ∀ K, K ≤ 100 → (∀ j, j < K → exD n C (itD (nxD C) x j) = false) → (∀ j, j < K → ¬ xIA s 14 (plD (itD (nxD C) x j)) = iI R) → (∀ i j, i < j → j < K → plD (itD (nxD C) x i) ≠ plD (itD (nxD C) x j)) → ∀ u, ∃ s' u', fF a 0 s u = fF a K s' u' ∧ lsD s' R (itD (nxD C) x K) ∧ xFr oS s s' ∧ mrk s s' R (fun j => ∃ k, k < K ∧ j = plD (itD (nxD C) x k)) := by
  have L := LW_D h.2.2.2.2.1 h.2.2.1.2
  obtain ⟨t1, t2, t3⟩ := isT_13 h.1
  intro K
  induction K with
  | zero => intro _ _ _ _ u; exact ⟨s, u, rfl, hL, xFr.rf _ _, mrk_cg (mrk_rf s R) (fun j => ⟨fun q => q.elim, fun q => by obtain ⟨k, hk, _⟩ := q; omega⟩)⟩
  | succ K ih =>
    intro hK he hz hd u
    obtain ⟨s1, u1, a1, a2, a3, a4⟩ := ih (by omega) (fun j hj => he j (by omega)) (fun j hj => hz j (by omega)) (fun i j h1 h2 => hd i j h1 (by omega)) u
    have hv := it_vd L hx (K := K) (fun j hj => he j (by omega)) K (Nat.le_refl _)
    have nz : ¬ xIA s1 14 (plD (itD (nxD C) x K)) = iI R := fun q => by
      rcases (mrk_Z a4 _).mp q with z | ⟨k, hk, z⟩
      · exact hz K (by omega) z
      · exact hd k K hk (by omega) z.symm
    obtain ⟨s2, u2, b1, b2, b3, b4⟩ := (f_step (u := u1) (h.fr a3 t1 t2) t3 hv a2 (k := K) (by omega) nz).2 (he K (by omega))
    refine ⟨s2, u2, a1.trans b1, b2, a3.tr b3, mrk_cg (mrk_tr a4 b4) (fun j => ⟨?_, ?_⟩)⟩
    · rintro (⟨k, hk, q⟩ | q)
      · exact ⟨k, by omega, q⟩
      · exact ⟨K, by omega, q⟩
    · rintro ⟨k, hk, q⟩
      by_cases e : k = K
      · rw [e] at q; exact Or.inr q
      · exact Or.inl ⟨k, by omega, q⟩
theorem f_enter : xm O_follow 0 [.ref 13, .ref a] s = fF a 0 s (none, none) := by
  rw [e_O_follow, q_O_follow_0]; rfl
theorem mrk_at (hf : frsh w R) (m : mrk w s R P) {y : DX} (hy : plD y < 100) : xIA s 14 (plD y) = iI R ↔ P (plD y) := by
  rw [mrk_Z m]
  exact ⟨fun q => q.elim (fun z => absurd z (hf _ hy)) id, Or.inr⟩
theorem f_from_end (h : tb s a n C) (hf : frsh w R) (m : mrk w s R P) (cP : clD n C P) {e : Nat} (he : e < 2 * n) (hL : lsD s R (enD n e)) : ∃ (b : Bool) (s' : XW), xm O_follow 0 [.ref 13, .ref a] s = some (.int (bI b), s') ∧ (b = true ↔ ¬ P (plD (enD n e))) ∧ (b = true → lsD s' R (rvD C (exX n C e))) ∧ xIF s' 13 1 = iI R ∧ xFr oS s s' ∧ mrk w s' R (fun u => P u ∨ rcD n C (plD (enD n e)) u) := by
  have hA := h.2.2.2.2.1
  have hn := h.2.2.1
  have L := LW_D hA hn.2
  obtain ⟨t1, t2, t3⟩ := isT_13 h.1
  obtain ⟨e1, e2, e3⟩ := en_ok hA he
  have hs : exD n C (rvD C (enD n e)) = true := by rw [ex_rv hA e1]; exact e2
  rw [f_enter]
  by_cases q : P (plD (enD n e))
  · refine ⟨false, s, f_seen h e1 hL (by decide) ((mrk_at hf m (L.a7 _ e1)).mpr q), ⟨fun z => (by cases z), fun z => absurd q z⟩, fun z => (by cases z), hL.1, xFr.rf _ _, mrk_cg m (fun u => ⟨Or.inl, fun z => z.elim id (fun y => y _ cP q)⟩)⟩
  · obtain ⟨k1, k2, k3, k4, k5, k6⟩ := ex_ok hA hn.2 he
    have V := it_vd L e1 k2
    have nP : ∀ k, k ≤ exN n C e → ¬ P (plD (itD (nxD C) (enD n e) k)) := fun k hk z => q (cl_itb L e1 cP k2 k hk z)
    have nZ : ∀ k, k ≤ exN n C e → ¬ xIA s 14 (plD (itD (nxD C) (enD n e) k)) = iI R := fun k hk z => nP k hk ((mrk_at hf m (L.a7 _ (V k hk))).mp z)
    obtain ⟨s1, u1, a1, a2, a3, a4⟩ := f_run h e1 hL (exN n C e) (by omega) k2 (fun j hj => nZ j (by omega)) (fun i j h1 h2 => st_dist L e1 hs h1 (fun t ht => k2 t (by omega))) (none, none)
    have nz : ¬ xIA s1 14 (plD (itD (nxD C) (enD n e) (exN n C e))) = iI R := fun z => by
      rcases (mrk_Z a4 _).mp z with y | ⟨k, hk, y⟩
      · exact nZ _ (Nat.le_refl _) y
      · exact st_dist L e1 hs hk k2 y.symm
    obtain ⟨s2, b1, b2, b3, b4⟩ := (f_step (u := u1) (h.fr a3 t1 t2) t3 k4 a2 (k := exN n C e) k1 nz).1 k3
    refine ⟨true, s2, a1.trans b1, ⟨fun _ => q, fun _ => rfl⟩, fun _ => b2, b2.1, a3.tr b3, mrk_cg (mrk_tr m (mrk_tr a4 b4)) (fun u => ?_)⟩
    rw [← end_set L e1 cP hs k2 k3 u]
    constructor
    · rintro (z | (⟨k, hk, z⟩ | z))
      · exact Or.inl z
      · exact Or.inr ⟨k, by omega, z⟩
      · exact Or.inr ⟨exN n C e, Nat.le_refl _, z⟩
    · rintro (z | ⟨k, hk, z⟩)
      · exact Or.inl z
      · by_cases y : k = exN n C e
        · rw [y] at z; exact Or.inr (Or.inr z)
        · exact Or.inr (Or.inl ⟨k, by omega, z⟩)
theorem f_ring (h : tb s a n C) (hf : frsh w R) (m : mrk w s R P) (cP : clD n C P) (hB : ∀ y, vdD n C y → exD n C y = true → P (plD y)) (hx : vdD n C x) (q : ¬ P (plD x)) (hL : lsD s R x) : ∃ s', xm O_follow 0 [.ref 13, .ref a] s = some (.int (bI false), s') ∧ xIF s' 13 1 = iI R ∧ xFr oS s s' ∧ mrk w s' R (fun u => P u ∨ rcD n C (plD x) u) := by
  have hA := h.2.2.2.2.1
  have hn := h.2.2.1
  have L := LW_D hA hn.2
  obtain ⟨t1, t2, t3⟩ := isT_13 h.1
  have hK := ring_no L hx cP hB q
  obtain ⟨b, b1, b2, b3, b4⟩ := ring_ex L hx hK
  have V := fun k => it_vd L hx (fun j (_ : j < k) => hK j) k (Nat.le_refl _)
  have nP : ∀ k, ¬ P (plD (itD (nxD C) x k)) := fun k z => q (cl_itb L hx cP (K := k) (fun j _ => hK j) k (Nat.le_refl _) z)
  have nZ : ∀ k, ¬ xIA s 14 (plD (itD (nxD C) x k)) = iI R := fun k z => nP k ((mrk_at hf m (L.a7 _ (V k))).mp z)
  obtain ⟨s1, u1, a1, a2, a3, a4⟩ := f_run h hx hL b b2 (fun j _ => hK j) (fun j _ => nZ j) b4 (none, none)
  refine ⟨s1, ?_, a2.1, a3, mrk_cg (mrk_tr m a4) (fun u => ring_set L hx cP hK b1 b3 u)⟩
  rw [f_enter, a1]
  by_cases e : b = 100
  · rw [e]; exact f_end
  · refine f_seen (h.fr a3 t1 t2) (V b) a2 (by omega) ((mrk_Z a4 _).mpr (Or.inr ⟨0, by omega, ?_⟩))
    rw [b3]; rfl
theorem l_goToEnd (h1 : xIF w 13 1 = iI R) (hn : 1 ≤ n ∧ n ≤ 10) {e : Nat} (he : e < 2 * n) {z ze : Int} (hz : z = n ∧ ze = e) : ∃ w', xm O_goToEnd 0 [.ref 13, .int (iI z), .int (iI ze)] w = some (.null, w') ∧ lsD w' R (enD n e) ∧ xFr oS w w' ∧ xIA w' 14 = xIA w 14 := by
  obtain ⟨rfl, rfl⟩ := hz
  have f3 : ∀ {d r c : Int32}, xFr oS w (xpF (xpF (xpF w 13 4 d) 13 2 r) 13 3 c) := fun {d r c} => ((fr_pF rfl).tr (fr_pF rfl)).tr (fr_pF rfl)
  have g4 : ∀ d : Int32, xIF (xpF w 13 4 d) 13 4 = d := fun d => by rw [f_pF, if_pos rfl, if_pos rfl]
  have g1 : ∀ {d r c : Nat}, lsD (xpF (xpF (xpF w 13 4 (iI (d : Nat))) 13 2 (iI (r : Nat))) 13 3 (iI (c : Nat))) R (r, c, d) := fun {d r c} => by
    refine ⟨?_, ?_, ?_, ?_⟩
    · rw [f_pF, if_pos rfl, if_neg (by decide), f_pF, if_pos rfl, if_neg (by decide), f_pF, if_pos rfl, if_neg (by decide)]; exact h1
    · rw [f_pF, if_pos rfl, if_neg (by decide), f_pF, if_pos rfl, if_pos rfl]
    · rw [f_pF, if_pos rfl, if_pos rfl]
    · rw [f_pF, if_pos rfl, if_neg (by decide), f_pF, if_pos rfl, if_neg (by decide), f_pF, if_pos rfl, if_pos rfl]
  rw [e_O_goToEnd, q_O_goToEnd_0, iI_mul, iI_add]
  unfold enD
  by_cases c1 : 2 * e + 1 < n
  · rw [if_pos c1]
    refine ⟨_, s_lef (by omega) ?_, g1, f3, rfl⟩
    rw [q_O_goToEnd_39, g4, iI_mul, iI_sub]
    refine s_g rfl (s_g rfl (s_g rfl (s_t rfl ?_)))
    rw [q_O_goToEnd_84]
    refine s_g rfl (s_g rfl ?_)
    rw [q_O_goToEnd_149, show 2 * (e : Int) + 1 - 0 * n = ((2 * e + 1 : Nat) : Int) by omega]; rfl
  · rw [if_neg c1]
    by_cases c2 : 2 * e + 1 < 2 * n
    · rw [if_pos c2]
      refine ⟨_, s_let (by omega) ?_, g1, f3, rfl⟩
      rw [q_O_goToEnd_16, iI_mul]
      refine s_lef (by omega) ?_
      rw [q_O_goToEnd_39, g4, iI_mul, iI_sub]
      refine s_g rfl (s_g rfl (s_g rfl (s_f (by decide) (s_t rfl ?_))))
      rw [q_O_goToEnd_98, iI_sub]
      refine s_g rfl (s_g rfl ?_)
      rw [q_O_goToEnd_149, show 2 * (e : Int) + 1 - 1 * n = ((2 * e + 1 - n : Nat) : Int) by omega, show (n : Int) - 1 = ((n - 1 : Nat) : Int) by omega]; rfl
    · rw [if_neg c2]
      by_cases c3 : 2 * e + 1 < 3 * n
      · rw [if_pos c3]
        refine ⟨_, s_let (by omega) ?_, g1, f3, rfl⟩
        rw [q_O_goToEnd_16, iI_mul]
        refine s_let (by omega) ?_
        rw [q_O_goToEnd_27, iI_mul]
        refine s_lef (by omega) ?_
        rw [q_O_goToEnd_39, g4, iI_mul, iI_sub]
        refine s_g rfl (s_g rfl (s_g rfl (s_f (by decide) (s_f (by decide) (s_t rfl ?_)))))
        rw [q_O_goToEnd_114, iI_sub, iI_sub]
        refine s_g rfl (s_g rfl ?_)
        rw [q_O_goToEnd_149, show (n : Int) - 1 - (2 * (e : Int) + 1 - 2 * n) = ((n - 1 - (2 * e + 1 - 2 * n) : Nat) : Int) by omega, show (n : Int) - 1 = ((n - 1 : Nat) : Int) by omega]; rfl
      · rw [if_neg c3]
        refine ⟨_, s_let (by omega) ?_, g1, f3, rfl⟩
        rw [q_O_goToEnd_16, iI_mul]
        refine s_let (by omega) ?_
        rw [q_O_goToEnd_27, iI_mul]
        refine s_let (by omega) ?_
        rw [q_O_goToEnd_38, q_O_goToEnd_39, g4, iI_mul, iI_sub]
        refine s_g rfl (s_g rfl (s_g rfl (s_f (by decide) (s_f (by decide) (s_f (by decide) ?_)))))
        rw [q_O_goToEnd_134, iI_sub, iI_sub]
        refine s_g rfl (s_g rfl ?_)
        rw [q_O_goToEnd_149, show (n : Int) - 1 - (2 * (e : Int) + 1 - 3 * n) = ((n - 1 - (2 * e + 1 - 3 * n) : Nat) : Int) by omega]; rfl
theorem l_endHere (hL : lsD w R x) (hn : 1 ≤ n ∧ n ≤ 10) (hr : x.1 < n) (hc : x.2.1 < n) (hd4 : x.2.2 < 4) {z : Int} (hz : z = n) : xm O_endHere 0 [.ref 13, .int (iI z)] w = some (.int (iI (ehD n x.1 x.2.1 x.2.2 : Nat)), w) := by
  subst hz
  obtain ⟨r, c, d⟩ := x
  obtain ⟨l1, l2, l3, l4⟩ := hL
  dsimp only at hr hc hd4 l2 l3 l4
  have sh : ∀ (y : Int) (v : Nat), y = v → v < 2147483648 → iI y >>> (iI 1 &&& 31) = iI ((v / 2 : Nat) : Int) := fun y v hy hv => by
    rw [hy]; exact iI_shr (s := 1) hv (by decide)
  rw [e_O_endHere, q_O_endHere_0, l4]
  rcases four hd4 with rfl | rfl | rfl | rfl
  · refine s_g rfl (s_t rfl ?_)
    rw [q_O_endHere_32, l3, sh _ c rfl (by omega)]; rfl
  · refine s_g rfl (s_f (by decide) (s_t rfl ?_))
    rw [q_O_endHere_39, l2, iI_add, sh _ (n + r) (by omega) (by omega)]; rfl
  · refine s_g rfl (s_f (by decide) (s_f (by decide) (s_t rfl ?_)))
    rw [q_O_endHere_48, l3, iI_mul, iI_sub, iI_sub, sh _ (3 * n - 1 - c) (by omega) (by omega)]; rfl
  · refine s_g rfl (s_f (by decide) (s_f (by decide) (s_f (by decide) ?_)))
    rw [q_O_endHere_61, l2, iI_mul, iI_sub, iI_sub, sh _ (4 * n - 1 - r) (by omega) (by omega)]; rfl
/-! the rounds -/
def lpI (w : XW) (B : Nat) : Prop := ∃ R : Nat, R ≤ B ∧ xIF w 13 1 = iI R ∧ ∀ k, k < 100 → ∃ v : Nat, xIA w 14 k = iI v ∧ v ≤ R
theorem lpI_mono {B B' : Nat} (h : lpI w B) (hB : B ≤ B') : lpI w B' := by
  obtain ⟨R, h1, h2⟩ := h
  exact ⟨R, by omega, h2⟩
theorem lpI_fr {w' : XW} {B : Nat} {S : Nat → Bool} (h : lpI w B) (f : xFr S w w') (h1 : S 13 = false) (h2 : S 14 = false) : lpI w' B := by
  obtain ⟨R, g1, g2, g3⟩ := h
  exact ⟨R, g1, by rw [f.f (by decide) h1]; exact g2, fun k hk => by rw [f.a (by decide) h2]; exact g3 k hk⟩
theorem lp_round {B : Nat} (h : lpI w B) (hB : B + 1 < 2147483648) : ∃ R : Nat, R ≤ B + 1 ∧ xIF w 13 1 + iI 1 = iI R ∧ frsh (xpF w 13 1 (iI R)) R ∧ ∀ k, k < 100 → ∃ v : Nat, xIA w 14 k = iI v ∧ v ≤ R := by
  obtain ⟨R, h1, h2, h3⟩ := h
  refine ⟨R + 1, by omega, by rw [h2, iI_add]; rfl, fun j hj q => ?_, fun k hk => ?_⟩
  · obtain ⟨v, v1, v2⟩ := h3 j hj
    have q' : xIA w 14 j = iI ((R + 1 : Nat) : Int) := q
    rw [v1] at q'
    have := (iI_eq (a := (v : Int)) (b := ((R + 1 : Nat) : Int)) (by omega) (by omega)).mp q'
    omega
  · obtain ⟨v, v1, v2⟩ := h3 k hk
    exact ⟨v, v1, by omega⟩
theorem lp_end {B : Nat} (hR : R ≤ B) (h1 : xIF s 13 1 = iI R) (hv : ∀ k, k < 100 → ∃ v : Nat, xIA w 14 k = iI v ∧ v ≤ R) (m : mrk (xpF w 13 1 (iI R)) s R P) : lpI s B := by
  refine ⟨R, hR, h1, fun k hk => ?_⟩
  by_cases q : P k
  · exact ⟨R, m.1 k q, Nat.le_refl _⟩
  · obtain ⟨v, v1, v2⟩ := hv k hk
    exact ⟨v, by rw [m.2 k q]; exact v1, v2⟩
theorem l_otherEnd (h : tb w a n C) {B : Nat} (hP : lpI w B) (hB : B + 1 < 2147483648) {e : Nat} (he : e < 2 * n) {ze : Int} (hz : ze = e) : ∃ w', xm O_otherEnd 0 [.ref 13, .ref a, .int (iI ze)] w = some (.int (iI (lkD n C e : Nat)), w') ∧ lpI w' (B + 1) ∧ xFr oS w w' := by
  have hn := h.2.2.1
  obtain ⟨t1, t2, t3⟩ := isT_13 h.1
  obtain ⟨R, r1, r2, r3, r4⟩ := lp_round hP hB
  have f0 : xFr oS w (xpF w 13 1 (iI R)) := fr_pF rfl
  have g0 : xIF (xpF w 13 1 (iI R)) 13 1 = iI R := by rw [f_pF, if_pos rfl, if_pos rfl]
  obtain ⟨w1, a1, a2, a3, a4⟩ := l_goToEnd (w := xpF w 13 1 (iI R)) g0 hn he (z := (n : Int)) ⟨rfl, hz⟩
  have h1 := h.fr (f0.tr a3) t1 t2
  have m0 : mrk (xpF w 13 1 (iI R)) w1 R (fun _ => False) := ⟨fun _ q => q.elim, fun j _ => by rw [a4]⟩
  obtain ⟨b, w2, b1, b2, b3, b4, b5, b6⟩ := f_from_end h1 r3 m0 (fun x _ _ q => q) he a2
  have bt : b = true := b2.mpr id
  obtain ⟨k1, k2, k3, k4, k5, k6⟩ := ex_ok h.2.2.2.2.1 hn.2 he
  have rv := (rv_ok h.2.2.2.2.1 k4).1
  have h2 := h1.fr b5 t1 t2
  have eh := l_endHere (b3 bt) hn rv.1 rv.2.1 rv.2.2.1 (z := (n : Int)) rfl
  refine ⟨w2, ?_, lp_end r1 b4 r4 b6, (f0.tr a3).tr b5⟩
  rw [e_O_otherEnd, q_O_otherEnd_0, r2, (h.fr f0 t1 t2).2.2.2.1]
  refine s_g rfl (s_g rfl (s_g (T_ok h.1) (s_g rfl (s_V a1 (s_g rfl (s_I b1 (s_bt bt ?_)))))))
  rw [h2.2.2.2.1]
  refine s_g (T_ok h.1) (s_g rfl (s_I eh ?_))
  have el : ehD n (rvD C (exX n C e)).1 (rvD C (exX n C e)).2.1 (rvD C (exX n C e)).2.2 = lkD n C e := by
    unfold lkD
    generalize exX n C e = y
    rfl
  rw [q_O_otherEnd_39, el]
theorem l_goRound (h : tb s a n C) (h1 : xIF s 13 1 = iI R) (hf : frsh w R) (m : mrk w s R P) (cP : clD n C P) (hB : ∀ y, vdD n C y → exD n C y = true → P (plD y)) {i j : Nat} (hi : i < n) (hj : j < n) (q : ¬ P (i * 10 + j)) : ∃ s', xm O_goRound 0 [.ref 13, .ref a, .int (iI (i : Int)), .int (iI (j : Int))] s = some (.null, s') ∧ xIF s' 13 1 = iI R ∧ xFr oS s s' ∧ mrk w s' R (fun u => P u ∨ rcD n C (i * 10 + j) u) := by
  obtain ⟨t1, t2, t3⟩ := isT_13 h.1
  have f2 : xFr oS s (xpF (xpF s 13 2 (iI (i : Int))) 13 3 (iI (j : Int))) := (fr_pF rfl).tr (fr_pF rfl)
  obtain ⟨o1, o2⟩ := oT_fst h.2.2.2.2.1 hi hj
  have g2 : xIF (xpF (xpF s 13 2 (iI (i : Int))) 13 3 (iI (j : Int))) 13 2 = iI (i : Nat) := by rw [f_pF, if_pos rfl, if_neg (by decide), f_pF, if_pos rfl, if_pos rfl]
  have g3 : xIF (xpF (xpF s 13 2 (iI (i : Int))) 13 3 (iI (j : Int))) 13 3 = iI (j : Nat) := by rw [f_pF, if_pos rfl, if_pos rfl]
  have nx := l_next (h.fr f2 t1 t2) (x := (i, j, oT C i j 4)) ⟨g2, g3⟩ hi hj (zd := 4) 4 ⟨rfl, Nat.le_refl _⟩
  have hL : lsD (xpF (xpF (xpF s 13 2 (iI (i : Int))) 13 3 (iI (j : Int))) 13 4 (iI (oT C i j 4 : Nat))) R (i, j, oT C i j 4) := by
    refine ⟨?_, ?_, ?_, ?_⟩
    · rw [f_pF, if_pos rfl, if_neg (by decide), f_pF, if_pos rfl, if_neg (by decide), f_pF, if_pos rfl, if_neg (by decide)]; exact h1
    · rw [f_pF, if_pos rfl, if_neg (by decide)]; exact g2
    · rw [f_pF, if_pos rfl, if_neg (by decide)]; exact g3
    · rw [f_pF, if_pos rfl, if_pos rfl]
  obtain ⟨s1, b1, b2, b3, b4⟩ := f_ring (h.fr (f2.tr (fr_pF rfl)) t1 t2) hf (x := (i, j, oT C i j 4)) (P := P) (s := xpF (xpF (xpF s 13 2 (iI (i : Int))) 13 3 (iI (j : Int))) 13 4 (iI (oT C i j 4 : Nat))) (w := w) m cP hB ⟨hi, hj, o1, o2⟩ q hL
  refine ⟨s1, ?_, b2, (f2.tr (fr_pF rfl)).tr b3, b4⟩
  rw [e_O_goRound, q_O_goRound_0]
  exact s_g rfl (s_g rfl (s_g rfl (s_I nx (s_g rfl (s_g rfl (s_I b1 rfl))))))
theorem l_rings (h : tb w a n C) {B : Nat} (hP : lpI w B) (hB : B + 1 < 2147483648) : ∃ w', xm O_ringsOf 0 [.ref 13, .ref a] w = some (.int (iI (rgN n C n : Nat)), w') ∧ lpI w' (B + 1) ∧ xFr oS w w' := by
  have hn := h.2.2.1
  have hA := h.2.2.2.2.1
  obtain ⟨t1, t2, t3⟩ := isT_13 h.1
  obtain ⟨R, r1, r2, r3, r4⟩ := lp_round hP hB
  have f0 : xFr oS w (xpF w 13 1 (iI R)) := fr_pF rfl
  have g0 : xIF (xpF w 13 1 (iI R)) 13 1 = iI R := by rw [f_pF, if_pos rfl, if_pos rfl]
  rw [e_O_ringsOf, q_O_ringsOf_0, r2, h.2.2.2.1]
  suffices hs : ∃ w', xr O_ringsOf 0 17 [some (.ref 13), some (.ref a), some (.int (iI (n : Int))), some (.int (iI ((0 : Nat) : Int))), none, none] [] (0, 0) (xpF w 13 1 (iI R)) = some (.int (iI (rgN n C n : Nat)), w') ∧ lpI w' (B + 1) ∧ xFr oS w w' by
    obtain ⟨w', k1, k2⟩ := hs
    exact ⟨w', s_g (T_ok h.1) (s_g rfl (s_g rfl k1)), k2⟩
  refine x_loop (fun (e : Nat) (s : XW) (_ : Unit) => xr O_ringsOf 0 17 [some (.ref 13), some (.ref a), some (.int (iI (n : Int))), some (.int (iI (e : Int))), none, none] [] (0, 0) s) (2 * n)
    (fun e s => xFr oS w s ∧ xIF s 13 1 = iI R ∧ mrk (xpF w 13 1 (iI R)) s R (fun u => ∃ e', e' < e ∧ rcD n C (plD (enD n e')) u)) (fun o => ∃ w', o = some (.int (iI (rgN n C n : Nat)), w') ∧ lpI w' (B + 1) ∧ xFr oS w w') (fun e s u he hp => Or.inr ?_) (fun s u hp => ?_) (xpF w 13 1 (iI R)) () ⟨f0, g0, mrk_cg (mrk_rf _ _) (fun j => ⟨fun q => q.elim, fun q => by obtain ⟨k, hk, _⟩ := q; omega⟩)⟩
  · obtain ⟨p1, p2, p3⟩ := hp
    obtain ⟨s1, a1, a2, a3, a4⟩ := l_goToEnd p2 hn he (z := (n : Int)) ⟨rfl, rfl⟩
    have m1 : mrk (xpF w 13 1 (iI R)) s1 R (fun u => ∃ e', e' < e ∧ rcD n C (plD (enD n e')) u) := ⟨fun j q => by rw [a4]; exact p3.1 j q, fun j q => by rw [a4]; exact p3.2 j q⟩
    have cP : clD n C (fun u => ∃ e', e' < e ∧ rcD n C (plD (enD n e')) u) := fun x hx hex hq => by
      obtain ⟨e', q1, q2⟩ := hq
      exact ⟨e', q1, rch_cl _ x hx hex q2⟩
    obtain ⟨b, s2, b1, b2, b3, b4, b5, b6⟩ := f_from_end (h.fr (p1.tr a3) t1 t2) r3 m1 cP he a2
    refine ⟨s2, (), ?_, (p1.tr a3).tr b5, b4, mrk_cg b6 (fun u => ⟨?_, ?_⟩)⟩
    · show xr O_ringsOf 0 17 _ [] (0, 0) s = _
      rw [q_O_ringsOf_17, iI_mul]
      refine s_lef (by omega) (s_g rfl (s_V a1 (s_g rfl (s_I b1 ?_))))
      rw [iI_add]; rfl
    · rintro (⟨e', q1, q2⟩ | q)
      · exact ⟨e', by omega, q2⟩
      · exact ⟨e, by omega, q⟩
    · rintro ⟨e', q1, q2⟩
      by_cases y : e' = e
      · rw [y] at q2; exact Or.inr q2
      · exact Or.inl ⟨e', by omega, q2⟩
  · obtain ⟨p1, p2, p3⟩ := hp
    have p3' := mrk_cg p3 (fun u => Zm_zero (n := n) (C := C) u)
    show ∃ w', xr O_ringsOf 0 17 _ [] (0, 0) s = _ ∧ _
    rw [q_O_ringsOf_17, iI_mul]
    suffices hs : ∃ w', xr O_ringsOf 0 47 [some (.ref 13), some (.ref a), some (.int (iI (n : Int))), some (.int (iI ((rgN n C 0 : Nat) : Int))), some (.int (iI ((0 : Nat) : Int))), none] [] (0, 0) s = some (.int (iI (rgN n C n : Nat)), w') ∧ lpI w' (B + 1) ∧ xFr oS w w' by
      obtain ⟨w', k1, k2⟩ := hs
      refine ⟨w', s_let (by omega) ?_, k2⟩
      have e0 : rgN n C 0 = 0 := rfl
      rw [e0] at k1
      rw [q_O_ringsOf_42]
      exact k1
    refine x_nest (fun (i : Nat) (s : XW) (u : Option Value) => xr O_ringsOf 0 47 [some (.ref 13), some (.ref a), some (.int (iI (n : Int))), some (.int (iI ((rgN n C i : Nat) : Int))), some (.int (iI (i : Int))), u] [] (0, 0) s)
      (fun (i j : Nat) (s : XW) (_ : Unit) => xr O_ringsOf 0 56 [some (.ref 13), some (.ref a), some (.int (iI (n : Int))), some (.int (iI ((rgN n C i + sumN (rgB n C i) j : Nat) : Int))), some (.int (iI (i : Int))), some (.int (iI (j : Int)))] [] (0, 0) s)
      n (fun _ => n) (fun i j s => xFr oS w s ∧ xIF s 13 1 = iI R ∧ mrk (xpF w 13 1 (iI R)) s R (Zm n C i j)) (fun o => ∃ w', o = some (.int (iI (rgN n C n : Nat)), w') ∧ lpI w' (B + 1) ∧ xFr oS w w')
      (fun i s u hi hp => ⟨(), ?_⟩) (fun i j s v hi hj hp => Or.inr ?_) (fun i s v hi hp => ⟨some (.int (iI (n : Int))), ?_, hp.1, hp.2.1, mrk_cg hp.2.2 (Zm_row i)⟩) (fun s u hp => ⟨s, ?_, lp_end r1 hp.2.1 r4 hp.2.2, hp.1⟩) s none ⟨p1, p2, p3'⟩
    · show xr O_ringsOf 0 47 _ [] (0, 0) s = _
      rw [q_O_ringsOf_47]
      exact s_lef (by omega) rfl
    · obtain ⟨p1, p2, p3⟩ := hp
      have hb := h.fr p1 t1 t2
      have sn := l_isSeen (w := s) hb.2.1 (zi := (i : Int)) (zj := (j : Int)) i j ⟨rfl, rfl, by omega, by omega⟩
      have iffZ : xIA s 14 (i * 10 + j) = xIF s 13 1 ↔ Zm n C i j (i * 10 + j) := by
        rw [p2]
        exact mrk_at r3 p3 (y := (i, j, 0)) (show i * 10 + j < 100 by omega)
      show ∃ s' v', xr O_ringsOf 0 56 _ [] (0, 0) s = _ ∧ _
      rw [q_O_ringsOf_56]
      by_cases q : Zm n C i j (i * 10 + j)
      · refine ⟨s, (), s_lef (by omega) (s_g rfl (s_I sn (s_pt (iffZ.mpr q) ?_))), p1, p2, mrk_cg p3 (Zm_skip hi hj q)⟩
        rw [q_O_ringsOf_85, iI_add, show sumN (rgB n C i) (j + 1) = sumN (rgB n C i) j + rgB n C i j from rfl, rgB_0 q]; rfl
      · obtain ⟨s1, b1, b2, b3, b4⟩ := l_goRound hb p2 r3 p3 (Zm_cl i j) (fun y hy he => Zm_bd hA i j hy he) hi hj q
        refine ⟨s1, (), s_lef (by omega) (s_g rfl (s_I sn (s_pf (fun z => q (iffZ.mp z)) (s_g rfl (s_V b1 ?_))))), p1.tr b3, b2, mrk_cg b4 (Zm_next hi hj)⟩
        rw [q_O_ringsOf_85, iI_add, iI_add, show sumN (rgB n C i) (j + 1) = sumN (rgB n C i) j + rgB n C i j from rfl, rgB_1 q]; rfl
    · show xr O_ringsOf 0 56 _ [] (0, 0) s = _
      rw [q_O_ringsOf_56]
      refine s_let (by omega) ?_
      rw [q_O_ringsOf_91, iI_add]; rfl
    · show xr O_ringsOf 0 47 _ [] (0, 0) s = _
      rw [q_O_ringsOf_47]
      refine s_let (by omega) ?_
      rw [q_O_ringsOf_97]
end XLOP4
