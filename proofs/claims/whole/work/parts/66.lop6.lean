/-! ===== LOOPS, 6 (own work): the reference goes on, leaves, joins ===== -/
def egS (r c d : Nat) : Bool × Nat × Nat := match d with
  | 0 => (false, r, c)
  | 1 => (true, r, c + 1)
  | 2 => (false, r + 1, c)
  | _ => (true, r, c)
def sdK (k : Nat) : Nat := match k with
  | 0 => 3
  | 1 => 1
  | 2 => 0
  | _ => 2
def psK (o : Nat) : Nat := match o with
  | 3 => 0
  | 1 => 1
  | 0 => 2
  | _ => 3
theorem sd_ps : ∀ o, o < 4 → sdK (psK o) = o ∧ psK o < 4 ∧ ∀ k, k < 4 → sdK k = o → k = psK o := by decide
theorem sdK_lt : ∀ k, k < 4 → sdK k < 4 := by decide
theorem egS_cd (r c : Nat) {d : Nat} (hd4 : d < 4) : cdE (egS r c d).1 (egS r c d).2.1 (egS r c d).2.2 = cdS r c d := by
  rcases four hd4 with rfl | rfl | rfl | rfl <;> rfl
theorem egS_sH (C : Nat → Nat → Int) (r c : Nat) {d : Nat} (hd4 : d < 4) : hd C (egS r c d).1 (egS r c d).2.1 (egS r c d).2.2 = sH C r c d := by
  rcases four hd4 with rfl | rfl | rfl | rfl <;> rfl
theorem egS_ok {n r c d : Nat} (hr : r < n) (hc : c < n) (hd4 : d < 4) : eOk n (egS r c d).1 (egS r c d).2.1 (egS r c d).2.2 := by
  rcases four hd4 with rfl | rfl | rfl | rfl
  · exact show r ≤ n ∧ c < n by omega
  · exact show r < n ∧ c + 1 ≤ n by omega
  · exact show r + 1 ≤ n ∧ c < n by omega
  · exact show r < n ∧ c ≤ n by omega
theorem cdS_val (r c : Nat) : cdS r c 0 = 10000 + 100 * r + c ∧ cdS r c 1 = 0 + 100 * r + (c + 1) ∧ cdS r c 2 = 10000 + 100 * (r + 1) + c ∧ cdS r c 3 = 0 + 100 * r + c := ⟨rfl, rfl, rfl, rfl⟩
theorem cdS_inj {r c : Nat} (hr : r < 10) (hc : c < 10) {d e : Nat} (hd4 : d < 4) (he4 : e < 4) (h : cdS r c d = cdS r c e) : d = e := by
  obtain ⟨v0, v1, v2, v3⟩ := cdS_val r c
  rcases four hd4 with rfl | rfl | rfl | rfl <;> rcases four he4 with rfl | rfl | rfl | rfl <;> first | rfl | omega
theorem cdS_lt {r c d : Nat} (hr : r < 10) (hc : c < 10) (hd4 : d < 4) : cdS r c d < 20000 := by
  obtain ⟨v0, v1, v2, v3⟩ := cdS_val r c
  rcases four hd4 with rfl | rfl | rfl | rfl <;> omega
theorem cd_mv {n r c e : Nat} (hr : r < n) (hc : c < n) (he : e < 4) (ho : ouD n r c e = false) : cdS (mvD r c e).1 (mvD r c e).2.1 (mvD r c e).2.2 = cdS r c e := by
  rcases four he with rfl | rfl | rfl | rfl
  · have o := of_decide_eq_false ho
    show cdE false (r - 1 + 1) c = cdE false r c
    rw [show r - 1 + 1 = r by omega]
  · rfl
  · rfl
  · have o := of_decide_eq_false ho
    show cdE true r (c - 1 + 1) = cdE true r c
    rw [show c - 1 + 1 = c by omega]
def fsB (b0 b1 b3 : Bool) : Nat := if b3 = true then 3 else if b1 = true then 1 else if b0 = true then 0 else 2
theorem fsB_ok : ∀ b0 b1 b2 b3 : Bool, b0.toNat + b1.toNat + b2.toNat + b3.toNat = 2 → fsB b0 b1 b3 < 4 ∧ selB b0 b1 b2 b3 (fsB b0 b1 b3) = true ∧ ∀ k, k < psK (fsB b0 b1 b3) → selB b0 b1 b2 b3 (sdK k) = false := by decide
def fsR (C : Nat → Nat → Int) (r c : Nat) : Nat := fsB (hd C false r c) (hd C true r (c + 1)) (hd C true r c)
theorem fsR_ok {n : Nat} {C : Nat → Nat → Int} (h : asm n C) {r c : Nat} (hr : r < n) (hc : c < n) : fsR C r c < 4 ∧ sH C r c (fsR C r c) = true ∧ ∀ k, k < psK (fsR C r c) → sH C r c (sdK k) = false := fsB_ok _ _ _ _ (cnt_H h hr hc)
theorem iI_rem {a b : Int} (ha : 0 ≤ a ∧ a < 2147483648) (hb : 0 < b ∧ b < 2147483648) : iI a - iI a / iI b * iI b = iI (a % b) := by
  rw [iI_div ha hb, iI_mul, iI_sub]
  congr 1
  rw [Int.emod_def, Int.mul_comm]
section XLOP6
variable {w : XW} {n p : Nat} {C : Nat → Nat → Int}
abbrev O4 := Option Value × Option Value × Option Value × Option Value
noncomputable def nF (p r c : Nat) (ze : Int) (k : Nat) (w : XW) (u : O4) : Option XR := xr M_next 0 3 [some (.ref 34), some (.int (iI (p : Int))), some (.int (iI (r : Int))), some (.int (iI (c : Int))), some (.int (iI ze)), some (.int (iI (k : Int))), u.1, u.2.1, u.2.2.1, u.2.2.2] [] (0, 0) w
theorem n_pre {r c k : Nat} (hr : r < 10) (hc : c < 10) (ze : Int) (hk : k < 4) (u : O4) : nF p r c ze k w u = xr M_next 0 50 [some (.ref 34), some (.int (iI (p : Int))), some (.int (iI (r : Int))), some (.int (iI (c : Int))), some (.int (iI ze)), some (.int (iI (k : Int))), some (.int (bI (egS r c (sdK k)).1)), some (.int (iI ((egS r c (sdK k)).2.1 : Nat))), u.2.2.1, u.2.2.2] [.int (iI ((egS r c (sdK k)).2.2 : Nat))] (0, 0) w := by
  unfold nF
  rw [q_M_next_3]
  rcases four hk with rfl | rfl | rfl | rfl
  · refine s_lef (by decide) (s_lef (by decide) ?_)
    rw [q_M_next_20]
    refine s_f (by decide) ?_
    rw [q_M_next_34, q_M_next_35]
    refine s_f (by decide) ?_
    rw [q_M_next_49]; rfl
  · refine s_lef (by decide) (s_lef (by decide) ?_)
    rw [q_M_next_20]
    refine s_f (by decide) ?_
    rw [q_M_next_34, q_M_next_35]
    refine s_t (by decide) ?_
    rw [iI_add]; rfl
  · refine s_lef (by decide) (s_let (by decide) ?_)
    rw [q_M_next_19, q_M_next_20]
    refine s_f (by decide) ?_
    rw [q_M_next_34, q_M_next_35]
    refine s_f (by decide) ?_
    rw [q_M_next_49]; rfl
  · refine s_lef (by decide) (s_let (by decide) ?_)
    rw [q_M_next_19, q_M_next_20]
    refine s_t (by decide) ?_
    rw [q_M_next_35]
    refine s_f (by decide) ?_
    rw [q_M_next_49, iI_add]; rfl
theorem n_no (hG : XG w) (h : rt w p n C) (hp : p < 8) {r c k : Nat} (hr : r < n) (hc : c < n) {ze : Int} (hze : -2 < ze ∧ ze < 30000) (hk : k < 4) (hq : (cdS r c (sdK k) : Int) = ze ∨ sH C r c (sdK k) = false) (u : O4) : ∃ u', nF p r c ze k w u = nF p r c ze (k + 1) w u' := by
  have hn := h.1
  have sk := sdK_lt k hk
  have lt := cdS_lt (r := r) (c := c) (by omega) (by omega) sk
  refine ⟨(some (.int (bI (egS r c (sdK k)).1)), some (.int (iI ((egS r c (sdK k)).2.1 : Nat))), some (.int (iI ((egS r c (sdK k)).2.2 : Nat))), some (.int (iI (cdS r c (sdK k) : Nat)))), ?_⟩
  rw [n_pre (by omega) (by omega) ze hk, q_M_next_50]
  have ed := r_edge (w := w) (egS r c (sdK k)).1 rfl (zi := ((egS r c (sdK k)).2.1 : Nat)) (zj := ((egS r c (sdK k)).2.2 : Nat)) (egS r c (sdK k)).2.1 (egS r c (sdK k)).2.2 ⟨rfl, rfl⟩
  rw [egS_cd r c sk] at ed
  have nxt : xr M_next 0 147 [some (.ref 34), some (.int (iI (p : Int))), some (.int (iI (r : Int))), some (.int (iI (c : Int))), some (.int (iI ze)), some (.int (iI (k : Int))), some (.int (bI (egS r c (sdK k)).1)), some (.int (iI ((egS r c (sdK k)).2.1 : Nat))), some (.int (iI ((egS r c (sdK k)).2.2 : Nat))), some (.int (iI (cdS r c (sdK k) : Nat)))] [] (0, 0) w = nF p r c ze (k + 1) w (some (.int (bI (egS r c (sdK k)).1)), some (.int (iI ((egS r c (sdK k)).2.1 : Nat))), some (.int (iI ((egS r c (sdK k)).2.2 : Nat))), some (.int (iI (cdS r c (sdK k) : Nat)))) := by
    rw [q_M_next_147, iI_add]; rfl
  refine s_I ed ?_
  by_cases q : (cdS r c (sdK k) : Int) = ze
  · exact s_eqt q nxt
  · have hf := hq.resolve_left q
    have hd := r_isHeld hG h hp (egS r c (sdK k)).1 rfl (egS r c (sdK k)).2.1 (egS r c (sdK k)).2.2 (zp := (p : Int)) ⟨rfl, rfl, rfl⟩ (egS_ok hr hc sk)
    rw [egS_sH C r c sk] at hd
    exact s_eqf (by omega) (s_g rfl (s_I hd (s_bf hf nxt)))
def nW (w : XW) (r c o : Nat) : XW := xpF (xpF w 34 6 (iI ((r : Int) + xsi 1 o))) 34 7 (iI ((c : Int) + xsi 2 o))
theorem n_yes (hG : XG w) (h : rt w p n C) (hp : p < 8) {r c o : Nat} (hr : r < n) (hc : c < n) {ze : Int} (hze : -2 < ze ∧ ze < 30000) (ho : o < 4) (hs : sH C r c o = true) (hne : (cdS r c o : Int) ≠ ze) (u : O4) : nF p r c ze (psK o) w u = some (.int (iI (cdS r c o : Nat)), nW w r c o) := by
  have hn := h.1
  obtain ⟨s1, s2, s3⟩ := sd_ps o ho
  have lt := cdS_lt (r := r) (c := c) (by omega) (by omega) ho
  rw [n_pre (by omega) (by omega) ze s2, q_M_next_50, s1]
  have ed := r_edge (w := w) (egS r c o).1 rfl (zi := ((egS r c o).2.1 : Nat)) (zj := ((egS r c o).2.2 : Nat)) (egS r c o).2.1 (egS r c o).2.2 ⟨rfl, rfl⟩
  rw [egS_cd r c ho] at ed
  have hd := r_isHeld hG h hp (egS r c o).1 rfl (egS r c o).2.1 (egS r c o).2.2 (zp := (p : Int)) ⟨rfl, rfl, rfl⟩ (egS_ok hr hc ho)
  rw [egS_sH C r c ho] at hd
  refine s_I ed (s_eqf (by omega) (s_g rfl (s_I hd (s_bt hs ?_))))
  rw [q_M_next_87]
  unfold nW
  rcases four ho with rfl | rfl | rfl | rfl
  · refine s_t (by decide) ?_
    rw [q_M_next_113, iI_sub]
    refine s_g rfl (s_f (by decide) ?_)
    rw [q_M_next_128]
    refine s_f (by decide) ?_
    rw [q_M_next_140, q_M_next_141]
    refine s_g rfl ?_
    rw [iI_sub, show (r : Int) + xsi 1 0 = (r : Int) - 1 by show (r : Int) + -1 = _; omega, show (c : Int) + xsi 2 0 = (c : Int) by show (c : Int) + 0 = _; omega]
  · refine s_f (by decide) ?_
    rw [q_M_next_100]
    refine s_f (by decide) ?_
    rw [q_M_next_112, q_M_next_113]
    refine s_g rfl (s_f (by decide) ?_)
    rw [q_M_next_128]
    refine s_t (by decide) ?_
    rw [q_M_next_141, iI_add]
    refine s_g rfl ?_
    rw [show (r : Int) + xsi 1 1 = (r : Int) by show (r : Int) + 0 = _; omega, show (c : Int) + xsi 2 1 = (c : Int) + 1 from rfl]
  · refine s_f (by decide) ?_
    rw [q_M_next_100]
    refine s_t (by decide) ?_
    rw [q_M_next_113, iI_add]
    refine s_g rfl (s_f (by decide) ?_)
    rw [q_M_next_128]
    refine s_f (by decide) ?_
    rw [q_M_next_140, q_M_next_141]
    refine s_g rfl ?_
    rw [show (r : Int) + xsi 1 2 = (r : Int) + 1 from rfl, show (c : Int) + xsi 2 2 = (c : Int) by show (c : Int) + 0 = _; omega]
  · refine s_f (by decide) ?_
    rw [q_M_next_100]
    refine s_f (by decide) ?_
    rw [q_M_next_112, q_M_next_113]
    refine s_g rfl (s_t (by decide) ?_)
    rw [q_M_next_141, iI_sub]
    refine s_g rfl ?_
    rw [show (r : Int) + xsi 1 3 = (r : Int) by show (r : Int) + 0 = _; omega, show (c : Int) + xsi 2 3 = (c : Int) - 1 by show (c : Int) + -1 = _; omega]
theorem r_next (hG : XG w) (h : rt w p n C) (hp : p < 8) {r c o : Nat} (hr : r < n) (hc : c < n) {ze : Int} (hze : -2 < ze ∧ ze < 30000) (ho : o < 4) (hs : sH C r c o = true) (hne : (cdS r c o : Int) ≠ ze) (hno : ∀ k, k < psK o → (cdS r c (sdK k) : Int) = ze ∨ sH C r c (sdK k) = false) : xm M_next 0 [.ref 34, .int (iI (p : Int)), .int (iI (r : Int)), .int (iI (c : Int)), .int (iI ze)] w = some (.int (iI (cdS r c o : Nat)), nW w r c o) := by
  obtain ⟨s1, s2, s3⟩ := sd_ps o ho
  obtain ⟨u', hu⟩ := x_upj (fun (k : Nat) (u : O4) => nF p r c ze k w u) (N := psK o) (fun k hk u => n_no hG h hp hr hc hze (by omega) (hno k hk) u) 0 (Nat.zero_le _) (none, none, none, none)
  rw [e_M_next, q_M_next_0]
  exact (Eq.trans hu (n_yes hG h hp hr hc hze ho hs hne u'))
theorem r_nextD (hG : XG w) (h : rt w p n C) (hp : p < 8) {x : DX} (hx : vdD n C x) : xm M_next 0 [.ref 34, .int (iI (p : Int)), .int (iI (x.1 : Nat)), .int (iI (x.2.1 : Nat)), .int (iI (cdS x.1 x.2.1 x.2.2 : Nat))] w = some (.int (iI (cdS x.1 x.2.1 (oT C x.1 x.2.1 x.2.2) : Nat)), nW w x.1 x.2.1 (oT C x.1 x.2.1 x.2.2)) := by
  have hn := h.1
  have h1 := hx.1
  have h2 := hx.2.1
  obtain ⟨a1, a2, a3, a4⟩ := oT_ok h.2.1 hx.1 hx.2.1 hx.2.2.1 hx.2.2.2
  obtain ⟨s1, s2, s3⟩ := sd_ps _ a2
  have lt := cdS_lt (r := x.1) (c := x.2.1) (by omega) (by omega) hx.2.2.1
  refine r_next hG h hp hx.1 hx.2.1 (by omega) a2 a3 (fun q => a1 (cdS_inj (r := x.1) (c := x.2.1) (by omega) (by omega) a2 hx.2.2.1 (by omega))) (fun k hk => ?_)
  cases hq : sH C x.1 x.2.1 (sdK k) with
  | false => exact Or.inr rfl
  | true =>
    rcases a4 _ (sdK_lt k (by omega)) hq with z | z
    · exact Or.inl (by rw [z])
    · have := s3 k (by omega) z; omega
def mrkR (s s' : XW) (P : Nat → Prop) : Prop := (∀ j, P j → xIA s' 38 j = iI 1) ∧ ∀ j, ¬ P j → xIA s' 38 j = xIA s 38 j
theorem mrkR_rf (s : XW) : mrkR s s (fun _ => False) := ⟨fun _ h => h.elim, fun _ _ => rfl⟩
theorem mrkR_tr {s s1 s2 : XW} {P Q : Nat → Prop} (h : mrkR s s1 P) (g : mrkR s1 s2 Q) : mrkR s s2 (fun j => P j ∨ Q j) := by
  refine ⟨fun j hj => ?_, fun j hj => ?_⟩
  · by_cases q : Q j
    · exact g.1 j q
    · rcases hj with z | z
      · rw [g.2 j q]; exact h.1 j z
      · exact absurd z q
  · rw [g.2 j (fun q => hj (Or.inr q)), h.2 j (fun q => hj (Or.inl q))]
theorem mrkR_cg {s s' : XW} {P Q : Nat → Prop} (h : mrkR s s' P) (e : ∀ j, P j ↔ Q j) : mrkR s s' Q := ⟨fun j hj => h.1 j ((e j).mpr hj), fun j hj => h.2 j (fun q => hj ((e j).mp q))⟩
/-- a step's world: the place marked, gone on -/
def nS2 (s : XW) (x : DX) (o : Nat) : XW := nW (xpI s 38 (plD x) (iI 1)) x.1 x.2.1 o
theorem nS2_ok (s : XW) (x : DX) (o : Nat) : mFr s (nS2 s x o) ∧ kK s (nS2 s x o) ∧ mrkR s (nS2 s x o) (fun j => j = plD x) ∧ xIF (nS2 s x o) 34 6 = iI ((x.1 : Int) + xsi 1 o) ∧ xIF (nS2 s x o) 34 7 = iI ((x.2.1 : Int) + xsi 2 o) := by
  unfold nS2 nW
  refine ⟨((mFr_I (by decide)).tr (mFr_F (by decide))).tr (mFr_F (by decide)), ((kK_I (by decide)).tr (kK_F (by decide))).tr (kK_F (by decide)), ⟨fun j hj => ?_, fun j hj => ?_⟩, ?_, ?_⟩
  · rw [a_pF, a_pF, a_pI, if_pos rfl, if_pos hj]
  · rw [a_pF, a_pF, a_pI, if_pos rfl, if_neg hj]
  · rw [f_pF, if_pos rfl, if_neg (by decide), f_pF, if_pos rfl, if_pos rfl]
  · rw [f_pF, if_pos rfl, if_pos rfl]
noncomputable def lF (p : Nat) (i2 i3 i6 : Int32) (s : XW) (zr zc : Int) (cd : Nat) : Option XR := xr M_leaves 0 68 [some (.ref 34), some (.int (iI (p : Int))), some (.int i2), some (.int i3), some (.int (iI zr)), some (.int (iI zc)), some (.int i6), some (.int (iI (cd : Int)))] [] (0, 0) s
theorem l_step (hG : XG w) (h : rt w p n C) (hp : p < 8) {x : DX} (hx : vdD n C x) {i2 i3 i6 : Int32} : lF p i2 i3 i6 w (x.1 : Nat) (x.2.1 : Nat) (cdS x.1 x.2.1 x.2.2) = lF p i2 i3 i6 (nS2 w x (oT C x.1 x.2.1 x.2.2)) ((x.1 : Int) + xsi 1 (oT C x.1 x.2.1 x.2.2)) ((x.2.1 : Int) + xsi 2 (oT C x.1 x.2.1 x.2.2)) (cdS x.1 x.2.1 (oT C x.1 x.2.1 x.2.2)) := by
  have hn := h.1
  have h1 := hx.1
  have h2 := hx.2.1
  obtain ⟨k1, k2, k3, k4, k5⟩ := nS2_ok w x (oT C x.1 x.2.1 x.2.2)
  unfold lF
  rw [q_M_leaves_68]
  have ix : (iI 10 * iI (x.1 : Nat) + iI (x.2.1 : Nat)).toNatClampNeg = plD x := by
    rw [iI_mul, iI_add, iI_nat (by omega)]
    show (10 * (x.1 : Int) + x.2.1).toNat = x.1 * 10 + x.2.1
    omega
  have f1 : mFr w (xpI w 38 (plD x) (iI 1)) := mFr_I (by decide)
  have nx := r_nextD (f1.1.G hG) (rt_kK h (kK_I (a := 38) (k := plD x) (v := iI 1) (by decide))) hp hx
  refine s_g rfl (s_I (r_isInside hG h ⟨rfl, hp⟩ (by omega) (by omega)) (s_pt (by omega) (s_g rfl (s_o (hG.r (by decide) rfl) (s_g ?_ (s_g rfl (s_g rfl ?_)))))))
  · rw [iI_mul, iI_add]; exact xin_t (n := 100) (by omega)
  · rw [ix]
    refine s_I nx (s_g rfl (s_g rfl ?_))
    show xr M_leaves 0 68 [_, _, _, _, some (.int (xIF (nS2 w x (oT C x.1 x.2.1 x.2.2)) 34 6)), some (.int (xIF (nS2 w x (oT C x.1 x.2.1 x.2.2)) 34 7)), _, _] [] (0, 0) (nS2 w x (oT C x.1 x.2.1 x.2.2)) = _
    rw [k4, k5]
theorem l_run (hG : XG w) (h : rt w p n C) (hp : p < 8) {x : DX} (hx : vdD n C x) {i2 i3 i6 : Int32} : ∀ K, (∀ j, j < K → exD n C (itD (nxD C) x j) = false) → ∃ s', lF p i2 i3 i6 w (x.1 : Nat) (x.2.1 : Nat) (cdS x.1 x.2.1 x.2.2) = lF p i2 i3 i6 s' ((itD (nxD C) x K).1 : Nat) ((itD (nxD C) x K).2.1 : Nat) (cdS (itD (nxD C) x K).1 (itD (nxD C) x K).2.1 (itD (nxD C) x K).2.2) ∧ mFr w s' ∧ kK w s' ∧ mrkR w s' (fun j => ∃ k, k < K ∧ j = plD (itD (nxD C) x k)) := by
  have L := LW_D h.2.1 h.1.2
  intro K
  induction K with
  | zero => intro _; exact ⟨w, rfl, mFr.rf _, kK.rf _, mrkR_cg (mrkR_rf w) (fun j => ⟨fun q => q.elim, fun q => by obtain ⟨k, hk, _⟩ := q; omega⟩)⟩
  | succ K ih =>
    intro he
    obtain ⟨s1, a1, a2, a3, a4⟩ := ih (fun j hj => he j (by omega))
    have hv := it_vd L hx (K := K) (fun j hj => he j (by omega)) K (Nat.le_refl _)
    have hex := he K (by omega)
    obtain ⟨o1, o2, o3, o4⟩ := oT_ok h.2.1 hv.1 hv.2.1 hv.2.2.1 hv.2.2.2
    obtain ⟨d1, d2, d3, d4⟩ := (dn_ac _ o2 n _ _ hv.1 hv.2.1).2 hex
    have hst := l_step (a2.1.G hG) (rt_kK h a3) hp hv (i2 := i2) (i3 := i3) (i6 := i6)
    rw [d2, d3, ← cd_mv hv.1 hv.2.1 o2 hex] at hst
    obtain ⟨k1, k2, k3, k4, k5⟩ := nS2_ok s1 (itD (nxD C) x K) (oT C (itD (nxD C) x K).1 (itD (nxD C) x K).2.1 (itD (nxD C) x K).2.2)
    refine ⟨_, a1.trans hst, a2.tr k1, a3.tr k2, mrkR_cg (mrkR_tr a4 k3) (fun j => ⟨?_, ?_⟩)⟩
    · rintro (⟨k, hk, q⟩ | q)
      · exact ⟨k, by omega, q⟩
      · exact ⟨K, by omega, q⟩
    · rintro ⟨k, hk, q⟩
      by_cases e : k = K
      · rw [e] at q; exact Or.inr q
      · exact Or.inl ⟨k, by omega, q⟩
theorem l_from_end (hG : XG w) (h : rt w p n C) (hp : p < 8) {e : Nat} (he : e < 2 * n) {i2 i3 i6 : Int32} : ∃ s', lF p i2 i3 i6 w ((enD n e).1 : Nat) ((enD n e).2.1 : Nat) (cdS (enD n e).1 (enD n e).2.1 (enD n e).2.2) = some (.int (iI (cdN n (lkD n C e) : Nat)), s') ∧ mFr w s' ∧ kK w s' ∧ mrkR w s' (rcD n C (plD (enD n e))) := by
  have hA := h.2.1
  have hn := h.1
  have L := LW_D hA hn.2
  obtain ⟨e1, e2, e3⟩ := en_ok hA he
  have hs : exD n C (rvD C (enD n e)) = true := by rw [ex_rv hA e1]; exact e2
  obtain ⟨k1, k2, k3, k4, k5, k6⟩ := ex_ok hA hn.2 he
  obtain ⟨s1, a1, a2, a3, a4⟩ := l_run hG h hp e1 (i2 := i2) (i3 := i3) (i6 := i6) (exN n C e) k2
  have hst := l_step (a2.1.G hG) (rt_kK h a3) hp k4 (i2 := i2) (i3 := i3) (i6 := i6)
  obtain ⟨o1, o2, o3, o4⟩ := oT_ok hA k4.1 k4.2.1 k4.2.2.1 k4.2.2.2
  have hout := (dn_ac _ o2 n _ _ k4.1 k4.2.1).1 k3
  obtain ⟨m1, m2, m3, m4, m5⟩ := nS2_ok s1 (exX n C e) (oT C (exX n C e).1 (exX n C e).2.1 (exX n C e).2.2)
  have xa : ∀ t, t < 4 → xsi 1 t + 2 ≤ 4 ∧ -2 ≤ xsi 1 t ∧ xsi 2 t + 2 ≤ 4 ∧ -2 ≤ xsi 2 t := by decide
  have xb := xa _ o2
  have b1 := k4.1
  have b2 := k4.2.1
  refine ⟨nS2 s1 (exX n C e) (oT C (exX n C e).1 (exX n C e).2.1 (exX n C e).2.2), ?_, a2.tr m1, a3.tr m2, mrkR_cg (mrkR_tr a4 m3) (fun u => ?_)⟩
  · have exx : itD (nxD C) (enD n e) (exN n C e) = exX n C e := by unfold exX; rfl
    rw [exx] at a1
    refine a1.trans (Eq.trans hst ?_)
    have fin : cdS (exX n C e).1 (exX n C e).2.1 (oT C (exX n C e).1 (exX n C e).2.1 (exX n C e).2.2) = cdN n (lkD n C e) := by
      rw [cdN_en k5, k6]
      generalize exX n C e = y
      rfl
    rw [fin]
    unfold lF
    rw [q_M_leaves_68]
    refine s_g rfl (s_I (r_isInside ((a2.tr m1).1.G hG) (rt_kK h (a3.tr m2)) ⟨rfl, hp⟩ (by omega) (by omega)) (s_pf (fun q => hout (by omega)) ?_))
    rw [q_M_leaves_122]
  · have es := end_set L e1 (Z := fun _ => False) (fun _ _ _ q => q) hs k2 k3 u
    constructor
    · intro q
      refine (es.mp ?_).resolve_left id
      rcases q with ⟨k, hk, z⟩ | z
      · exact Or.inr ⟨k, by omega, z⟩
      · exact Or.inr ⟨exN n C e, Nat.le_refl _, z⟩
    · intro q
      rcases es.mpr (Or.inr q) with z | ⟨k, hk, z⟩
      · exact z.elim
      · by_cases y : k = exN n C e
        · rw [y] at z; exact Or.inr z
        · exact Or.inl ⟨k, by omega, z⟩
end XLOP6
