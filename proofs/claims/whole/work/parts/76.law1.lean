/-! ===== THE LAW, 1 (own work): one call after another (written by gen_law.py) ===== -/
def JJ (w : XW) (A : AS) (B : Nat) (sc : XS) : Prop := IC w A ∧ nbI w ∧ jnI w ∧ lpI w B ∧ IM w A ∧ wI w ∧ xSc w = sc
def JC (w : XW) (A' A : AS) (B : Nat) (sc : XS) : Prop := IC w A' ∧ nbI w ∧ jnI w ∧ lpI w B ∧ IM w A ∧ wI w ∧ xSc w = sc
section XJJ
variable {w w1 : XW} {A A' : AS} {B : Nat} {sc : XS}
theorem JJ_id (h : JJ w A B sc) : JC w A A B sc := h
theorem JJ_S {S : Nat → Bool} {B' : Nat} (h : JJ w A B sc) (hc : IC w1 A') (hn : nbI w1) (hj : jnI w1) (hl : lpI w1 B') (f : xFr S w w1) (hS : ∀ q, 34 ≤ q → S q = false) : JC w1 A' A B' sc :=
  ⟨hc, hn, hj, hl, IM_fr h.2.2.2.2.1 f (fun q h1 _ => hS q h1), wI_fr h.2.2.2.2.2.1 f (hS 34 (by decide)) (hS 39 (by decide)), f.2.2.1.trans h.2.2.2.2.2.2⟩
theorem cT_no {q : Nat} (h : (6 ≤ q ∧ q < 18) ∨ 34 ≤ q) : cT q = false := by
  simp only [cT, Bool.or_eq_false_iff, Bool.and_eq_false_iff, decide_eq_false_iff_not]; omega
theorem cU_no {q : Nat} (h : (13 ≤ q ∧ q < 18) ∨ 34 ≤ q) : cU q = false := by
  simp only [cU, Bool.or_eq_false_iff, Bool.and_eq_false_iff, decide_eq_false_iff_not]; omega
theorem mT_no {q : Nat} (h : q < 34) : mT q = false := decide_eq_false (by omega)
theorem JJ_cT (h : JJ w A B sc) (hc : IC w1 A') (f : xFr cT w w1) : JC w1 A' A B sc :=
  JJ_S h hc (nbI_fr h.2.1 f (fun q _ _ => cT_no (by omega))) (jnI_fr h.2.2.1 f (cT_no (by decide)) (cT_no (by decide))) (lpI_fr h.2.2.2.1 f (cT_no (by decide)) (cT_no (by decide))) f (fun q hq => cT_no (Or.inr hq))
theorem JJ_cU (h : JJ w A B sc) (hc : IC w1 A') (hn : nbI w1) (f : xFr cU w w1) : JC w1 A' A B sc :=
  JJ_S h hc hn (jnI_fr h.2.2.1 f (cU_no (by decide)) (cU_no (by decide))) (lpI_fr h.2.2.2.1 f (cU_no (by decide)) (cU_no (by decide))) f (fun q hq => cU_no (Or.inr hq))
theorem JJ_oS {B' : Nat} (h : JJ w A B sc) (hc : IC w1 A') (hl : lpI w1 B') (f : xFr oS w w1) : JC w1 A' A B' sc :=
  JJ_S h hc (nbI_fr h.2.1 f (fun q _ _ => oS_no (by omega))) (jnI_fr h.2.2.1 f rfl rfl) hl f (fun q hq => oS_no (by omega))
theorem JJ_aS {B' : Nat} (h : JJ w A B sc) (hc : IC w1 A') (hn : nbI w1) (hj : jnI w1) (hl : lpI w1 B') (f : xFr aS w w1) : JC w1 A' A B' sc :=
  JJ_S h hc hn hj hl f (fun q hq => aS_no (by omega))
theorem JC_w {w2 : XW} {B' : Nat} (h : JC w1 A' A B sc) (hm : IM w2 A') (hw : wI w2) (f : xFr mT w1 w2) (hB : B ≤ B') : JJ w2 A' B' sc :=
  ⟨IC_fr h.1 f (fun q _ => mT_no (by omega)), nbI_fr h.2.1 f (fun q _ _ => mT_no (by omega)), jnI_fr h.2.2.1 f (mT_no (by decide)) (mT_no (by decide)), lpI_mono (lpI_fr h.2.2.2.1 f (mT_no (by decide)) (mT_no (by decide))) hB, hm, hw, f.2.2.1.trans h.2.2.2.2.2.2⟩
theorem JC_m {w2 : XW} {B' : Nat} (h : JC w1 A' A B sc) (hm : IM w2 A') (f : mFr w1 w2) (hB : B ≤ B') : JJ w2 A' B' sc := JC_w h hm (wI_m h.2.2.2.2.2.1 f) f.1 hB
end XJJ
def AR (sc : XS) (i z1 z2 z3 z4 : Int) : Prop := (xin (iI i + iI 1) sc.1 = true ∧ sc.2 (iI i + iI 1).toNatClampNeg = iI z1 ∧ i32 z1) ∧ (xin (iI i + iI 2) sc.1 = true ∧ sc.2 (iI i + iI 2).toNatClampNeg = iI z2 ∧ i32 z2) ∧ (xin (iI i + iI 3) sc.1 = true ∧ sc.2 (iI i + iI 3).toNatClampNeg = iI z3 ∧ i32 z3) ∧ (xin (iI i + iI 4) sc.1 = true ∧ sc.2 (iI i + iI 4).toNatClampNeg = iI z4 ∧ i32 z4)
def lwG (pc : Nat) (w : XW) (B : Nat) (sc : XS) (i : Int) (b : XB) : Prop := ∃ w2 A2 b2, xr L_law 0 pc [some (.retAddr 4), some (.ref 0), some (.ref 34), some (.int (iI i))] [] b w = xr L_law 0 1253 [some (.retAddr 4), some (.ref 0), some (.ref 34), some (.int (iI i))] [] b2 w2 ∧ JJ w2 A2 (B + 430) sc ∧ b.1 ≤ b2.1 + 2 ∧ b.2 ≤ b2.2 + 100
section XLAW1
variable {w : XW} {A : AS} {B : Nat} {sc : XS} {i z1 z2 z3 z4 : Int} {b : XB}
theorem L_164 (h : JJ w A B sc) (hB : B + 430 < 2147483648) (hz : AR sc i z1 z2 z3 z4) (hb : 2 ≤ b.1 ∧ 100 ≤ b.2) : lwG 164 w B sc i b := by
  obtain ⟨w1, c1, c2, c3⟩ := c_begin h.1 hz.1.2.2 hz.2.1.2.2
  have j1 := JJ_cT h c2 c3
  obtain ⟨w2, r1, r2, r3⟩ := r_begin j1.2.2.2.2.1 hz.1.2.2 hz.2.1.2.2
  refine ⟨_, _, b, ?_, JC_m j1 r2 r3 (by omega), by omega, by omega⟩
  rw [q_L_law_164, h.2.2.2.2.2.2]
  refine s_g hz.1.1 (s_g hz.2.1.1 (s_g rfl ?_))
  rw [hz.1.2.1, hz.2.1.2.1]
  refine s_I c1 ?_
  rw [j1.2.2.2.2.2.2]
  refine s_g hz.1.1 (s_g hz.2.1.1 (s_g rfl ?_))
  rw [hz.1.2.1, hz.2.1.2.1]
  exact s_I r1 (s_t rfl rfl)
theorem L_197 (h : JJ w A B sc) (hB : B + 430 < 2147483648) (hz : AR sc i z1 z2 z3 z4) (hb : 2 ≤ b.1 ∧ 100 ≤ b.2) : lwG 197 w B sc i b := by
  obtain ⟨w1, c1, c2, c3⟩ := c_put h.1 hz.1.2.2 hz.2.1.2.2 hz.2.2.1.2.2
  have j1 := JJ_cT h c2 c3
  obtain ⟨w2, r1, r2, r3⟩ := r_put j1.2.2.2.2.1 hz.1.2.2 hz.2.1.2.2 hz.2.2.1.2.2
  refine ⟨_, _, b, ?_, JC_m j1 r2 r3 (by omega), by omega, by omega⟩
  rw [q_L_law_197, h.2.2.2.2.2.2]
  refine s_g hz.1.1 (s_g hz.2.1.1 (s_g hz.2.2.1.1 (s_g rfl ?_)))
  rw [hz.1.2.1, hz.2.1.2.1, hz.2.2.1.2.1]
  refine s_I c1 ?_
  rw [j1.2.2.2.2.2.2]
  refine s_g hz.1.1 (s_g hz.2.1.1 (s_g hz.2.2.1.1 (s_g rfl ?_)))
  rw [hz.1.2.1, hz.2.1.2.1, hz.2.2.1.2.1]
  exact s_I r1 (s_t rfl rfl)
theorem L_240 (h : JJ w A B sc) (hB : B + 430 < 2147483648) (hz : AR sc i z1 z2 z3 z4) (hb : 2 ≤ b.1 ∧ 100 ≤ b.2) : lwG 240 w B sc i b := by
  have c1 := c_fault h.1 
  have j1 := JJ_id h
  have r1 := r_fault j1.2.2.2.2.1
  refine ⟨_, _, b, ?_, JC_m j1 (IM_F (k := 0) (v := iI 0) j1.2.2.2.2.1 (by decide)) (mFr_F (k := 0) (v := iI 0) (by decide)) (by omega), by omega, by omega⟩
  rw [q_L_law_240]
  refine s_g rfl ?_
  refine s_I c1 ?_
  refine s_g rfl ?_
  exact s_I r1 (s_t rfl rfl)
theorem L_253 (h : JJ w A B sc) (hB : B + 430 < 2147483648) (hz : AR sc i z1 z2 z3 z4) (hb : 2 ≤ b.1 ∧ 100 ≤ b.2) : lwG 253 w B sc i b := by
  obtain ⟨w1, c1, c2, c3⟩ := c_take h.1 hz.1.2.2
  have j1 := JJ_cT h c2 c3
  obtain ⟨w2, r1, r2, r3⟩ := r_take j1.2.2.2.2.1 hz.1.2.2
  refine ⟨_, _, b, ?_, JC_m j1 r2 r3 (by omega), by omega, by omega⟩
  rw [q_L_law_253, h.2.2.2.2.2.2]
  refine s_g hz.1.1 (s_g rfl ?_)
  rw [hz.1.2.1]
  refine s_I c1 ?_
  rw [j1.2.2.2.2.2.2]
  refine s_g hz.1.1 (s_g rfl ?_)
  rw [hz.1.2.1]
  exact s_I r1 (s_t rfl rfl)
theorem L_276 (h : JJ w A B sc) (hB : B + 430 < 2147483648) (hz : AR sc i z1 z2 z3 z4) (hb : 2 ≤ b.1 ∧ 100 ≤ b.2) : lwG 276 w B sc i b := by
  have c1 := c_size h.1 hz.1.2.2
  have j1 := JJ_id h
  obtain ⟨w2, r1, r2, r3⟩ := r_size j1.2.2.2.2.1 hz.1.2.2
  refine ⟨_, _, b, ?_, JC_m j1 r2 r3 (by omega), by omega, by omega⟩
  rw [q_L_law_276, h.2.2.2.2.2.2]
  refine s_g hz.1.1 (s_g rfl ?_)
  rw [hz.1.2.1]
  refine s_I c1 ?_
  rw [j1.2.2.2.2.2.2]
  refine s_g hz.1.1 (s_g rfl ?_)
  rw [hz.1.2.1]
  exact s_I r1 (s_t rfl rfl)
theorem L_299 (h : JJ w A B sc) (hB : B + 430 < 2147483648) (hz : AR sc i z1 z2 z3 z4) (hb : 2 ≤ b.1 ∧ 100 ≤ b.2) : lwG 299 w B sc i b := by
  have c1 := c_at h.1 hz.1.2.2 hz.2.1.2.2 hz.2.2.1.2.2
  have j1 := JJ_id h
  obtain ⟨w2, r1, r2, r3⟩ := r_at j1.2.2.2.2.1 hz.1.2.2 hz.2.1.2.2 hz.2.2.1.2.2
  refine ⟨_, _, b, ?_, JC_m j1 r2 r3 (by omega), by omega, by omega⟩
  rw [q_L_law_299, h.2.2.2.2.2.2]
  refine s_g hz.1.1 (s_g hz.2.1.1 (s_g hz.2.2.1.1 (s_g rfl ?_)))
  rw [hz.1.2.1, hz.2.1.2.1, hz.2.2.1.2.1]
  refine s_I c1 ?_
  rw [j1.2.2.2.2.2.2]
  refine s_g hz.1.1 (s_g hz.2.1.1 (s_g hz.2.2.1.1 (s_g rfl ?_)))
  rw [hz.1.2.1, hz.2.1.2.1, hz.2.2.1.2.1]
  exact s_I r1 (s_t rfl rfl)
theorem L_342 (h : JJ w A B sc) (hB : B + 430 < 2147483648) (hz : AR sc i z1 z2 z3 z4) (hb : 2 ≤ b.1 ∧ 100 ≤ b.2) : lwG 342 w B sc i b := by
  have c1 := c_sum h.1 hz.1.2.2 hz.2.1.2.2 hz.2.2.1.2.2
  have j1 := JJ_id h
  obtain ⟨w2, r1, r2, r3⟩ := r_sum j1.2.2.2.2.1 hz.1.2.2 hz.2.1.2.2 hz.2.2.1.2.2
  refine ⟨_, _, b, ?_, JC_m j1 r2 r3 (by omega), by omega, by omega⟩
  rw [q_L_law_342, h.2.2.2.2.2.2]
  refine s_g hz.1.1 (s_g hz.2.1.1 (s_g hz.2.2.1.1 (s_g rfl ?_)))
  rw [hz.1.2.1, hz.2.1.2.1, hz.2.2.1.2.1]
  refine s_I c1 ?_
  rw [j1.2.2.2.2.2.2]
  refine s_g hz.1.1 (s_g hz.2.1.1 (s_g hz.2.2.1.1 (s_g rfl ?_)))
  rw [hz.1.2.1, hz.2.1.2.1, hz.2.2.1.2.1]
  exact s_I r1 (s_t rfl rfl)
theorem L_385 (h : JJ w A B sc) (hB : B + 430 < 2147483648) (hz : AR sc i z1 z2 z3 z4) (hb : 2 ≤ b.1 ∧ 100 ≤ b.2) : lwG 385 w B sc i b := by
  have c1 := c_tri h.1 hz.1.2.2 hz.2.1.2.2 hz.2.2.1.2.2
  have j1 := JJ_id h
  obtain ⟨w2, r1, r2, r3⟩ := r_tri j1.2.2.2.2.1 hz.1.2.2 hz.2.1.2.2 hz.2.2.1.2.2
  refine ⟨_, _, b, ?_, JC_m j1 r2 r3 (by omega), by omega, by omega⟩
  rw [q_L_law_385, h.2.2.2.2.2.2]
  refine s_g hz.1.1 (s_g hz.2.1.1 (s_g hz.2.2.1.1 (s_g rfl ?_)))
  rw [hz.1.2.1, hz.2.1.2.1, hz.2.2.1.2.1]
  refine s_I c1 ?_
  rw [j1.2.2.2.2.2.2]
  refine s_g hz.1.1 (s_g hz.2.1.1 (s_g hz.2.2.1.1 (s_g rfl ?_)))
  rw [hz.1.2.1, hz.2.1.2.1, hz.2.2.1.2.1]
  exact s_I r1 (s_t rfl rfl)
theorem L_566 (h : JJ w A B sc) (hB : B + 430 < 2147483648) (hz : AR sc i z1 z2 z3 z4) (hb : 2 ≤ b.1 ∧ 100 ≤ b.2) : lwG 566 w B sc i b := by
  obtain ⟨w1, c1, c2, c3, c4⟩ := c_link h.1 h.2.2.2.1 (by omega) hz.1.2.2 hz.2.1.2.2
  have j1 := JJ_oS h c2 c3 c4
  obtain ⟨w2, r1, r2, r3⟩ := r_link j1.2.2.2.2.1 hz.1.2.2 hz.2.1.2.2
  refine ⟨_, _, b, ?_, JC_m j1 r2 r3 (by omega), by omega, by omega⟩
  rw [q_L_law_566, h.2.2.2.2.2.2]
  refine s_g hz.1.1 (s_g hz.2.1.1 (s_g rfl ?_))
  rw [hz.1.2.1, hz.2.1.2.1]
  refine s_I c1 ?_
  rw [j1.2.2.2.2.2.2]
  refine s_g hz.1.1 (s_g hz.2.1.1 (s_g rfl ?_))
  rw [hz.1.2.1, hz.2.1.2.1]
  exact s_I r1 (s_t rfl rfl)
theorem L_599 (h : JJ w A B sc) (hB : B + 430 < 2147483648) (hz : AR sc i z1 z2 z3 z4) (hb : 2 ≤ b.1 ∧ 100 ≤ b.2) : lwG 599 w B sc i b := by
  obtain ⟨w1, c1, c2, c3, c4⟩ := c_rings h.1 h.2.2.2.1 (by omega) hz.1.2.2
  have j1 := JJ_oS h c2 c3 c4
  obtain ⟨w2, r1, r2, r3⟩ := r_rings j1.2.2.2.2.1 hz.1.2.2
  refine ⟨_, _, b, ?_, JC_m j1 r2 r3 (by omega), by omega, by omega⟩
  rw [q_L_law_599, h.2.2.2.2.2.2]
  refine s_g hz.1.1 (s_g rfl ?_)
  rw [hz.1.2.1]
  refine s_I c1 ?_
  rw [j1.2.2.2.2.2.2]
  refine s_g hz.1.1 (s_g rfl ?_)
  rw [hz.1.2.1]
  exact s_I r1 (s_t rfl rfl)
theorem L_622 (h : JJ w A B sc) (hB : B + 430 < 2147483648) (hz : AR sc i z1 z2 z3 z4) (hb : 2 ≤ b.1 ∧ 100 ≤ b.2) : lwG 622 w B sc i b := by
  have c1 := c_kind h.1 hz.1.2.2
  have j1 := JJ_id h
  obtain ⟨w2, r1, r2, r3⟩ := r_kind j1.2.2.2.2.1 hz.1.2.2
  refine ⟨_, _, b, ?_, JC_m j1 r2 r3 (by omega), by omega, by omega⟩
  rw [q_L_law_622, h.2.2.2.2.2.2]
  refine s_g hz.1.1 (s_g rfl ?_)
  rw [hz.1.2.1]
  refine s_I c1 ?_
  rw [j1.2.2.2.2.2.2]
  refine s_g hz.1.1 (s_g rfl ?_)
  rw [hz.1.2.1]
  exact s_I r1 (s_t rfl rfl)
theorem L_645 (h : JJ w A B sc) (hB : B + 430 < 2147483648) (hz : AR sc i z1 z2 z3 z4) (hb : 2 ≤ b.1 ∧ 100 ≤ b.2) : lwG 645 w B sc i b := by
  have c1 := c_less h.1 hz.1.2.2
  have j1 := JJ_id h
  obtain ⟨w2, r1, r2, r3⟩ := r_less j1.2.2.2.2.1 hz.1.2.2
  refine ⟨_, _, b, ?_, JC_m j1 r2 r3 (by omega), by omega, by omega⟩
  rw [q_L_law_645, h.2.2.2.2.2.2]
  refine s_g hz.1.1 (s_g rfl ?_)
  rw [hz.1.2.1]
  refine s_I c1 ?_
  rw [j1.2.2.2.2.2.2]
  refine s_g hz.1.1 (s_g rfl ?_)
  rw [hz.1.2.1]
  exact s_I r1 (s_t rfl rfl)
theorem L_668 (h : JJ w A B sc) (hB : B + 430 < 2147483648) (hz : AR sc i z1 z2 z3 z4) (hb : 2 ≤ b.1 ∧ 100 ≤ b.2) : lwG 668 w B sc i b := by
  have c1 := c_count (w := w) hz.1.2.2
  have j1 := JJ_id h
  obtain ⟨w2, r1, r2, r3, r4⟩ := r_count j1.2.2.2.2.1 j1.2.2.2.2.2.1 hz.1.2.2
  refine ⟨_, _, b, ?_, JC_w j1 r2 r3 r4 (by omega), by omega, by omega⟩
  rw [q_L_law_668, h.2.2.2.2.2.2]
  refine s_g hz.1.1 (s_g rfl ?_)
  rw [hz.1.2.1]
  refine s_J c1 ?_
  rw [j1.2.2.2.2.2.2]
  refine s_g hz.1.1 (s_g rfl ?_)
  rw [hz.1.2.1]
  exact s_J r1 (s_t ((lg_cmp_eq _ _).mpr rfl) rfl)
theorem L_692 (h : JJ w A B sc) (hB : B + 430 < 2147483648) (hz : AR sc i z1 z2 z3 z4) (hb : 2 ≤ b.1 ∧ 100 ≤ b.2) : lwG 692 w B sc i b := by
  have c1 := c_first (w := w) hz.1.2.2 hz.2.1.2.2
  have j1 := JJ_id h
  obtain ⟨w2, r1, r2, r3, r4⟩ := r_first j1.2.2.2.2.1 j1.2.2.2.2.2.1 hz.1.2.2 hz.2.1.2.2
  refine ⟨_, _, b, ?_, JC_w j1 r2 r3 r4 (by omega), by omega, by omega⟩
  rw [q_L_law_692, h.2.2.2.2.2.2]
  refine s_g hz.1.1 (s_g hz.2.1.1 (s_g rfl ?_))
  rw [hz.1.2.1, hz.2.1.2.1]
  refine s_J c1 ?_
  rw [j1.2.2.2.2.2.2]
  refine s_g hz.1.1 (s_g hz.2.1.1 (s_g rfl ?_))
  rw [hz.1.2.1, hz.2.1.2.1]
  exact s_J r1 (s_t ((lg_cmp_eq _ _).mpr rfl) rfl)
theorem L_726 (h : JJ w A B sc) (hB : B + 430 < 2147483648) (hz : AR sc i z1 z2 z3 z4) (hb : 2 ≤ b.1 ∧ 100 ≤ b.2) : lwG 726 w B sc i b := by
  have c1 := c_weight (w := w) hz.1.2.2
  have j1 := JJ_id h
  obtain ⟨w2, r1, r2, r3⟩ := r_weight j1.2.2.2.2.1 hz.1.2.2
  refine ⟨_, _, b, ?_, JC_m j1 r2 r3 (by omega), by omega, by omega⟩
  rw [q_L_law_726, h.2.2.2.2.2.2]
  refine s_g hz.1.1 (s_g rfl ?_)
  rw [hz.1.2.1]
  refine s_J c1 ?_
  rw [j1.2.2.2.2.2.2]
  refine s_g hz.1.1 (s_g rfl ?_)
  rw [hz.1.2.1]
  exact s_J r1 (s_t ((lg_cmp_eq _ _).mpr rfl) rfl)
theorem L_750 (h : JJ w A B sc) (hB : B + 430 < 2147483648) (hz : AR sc i z1 z2 z3 z4) (hb : 2 ≤ b.1 ∧ 100 ≤ b.2) : lwG 750 w B sc i b := by
  obtain ⟨w1, c1, c2, c3, c4⟩ := c_number h.1 h.2.1 hz.1.2.2
  have j1 := JJ_cU h c2 c3 c4
  obtain ⟨w2, r1, r2, r3, r4⟩ := r_number j1.2.2.2.2.1 j1.2.2.2.2.2.1 hz.1.2.2
  refine ⟨_, _, b, ?_, JC_w j1 r2 r3 r4 (by omega), by omega, by omega⟩
  rw [q_L_law_750, h.2.2.2.2.2.2]
  refine s_g hz.1.1 (s_g rfl ?_)
  rw [hz.1.2.1]
  refine s_J c1 ?_
  rw [j1.2.2.2.2.2.2]
  refine s_g hz.1.1 (s_g rfl ?_)
  rw [hz.1.2.1]
  exact s_J r1 (s_t ((lg_cmp_eq _ _).mpr rfl) rfl)
theorem L_920 (h : JJ w A B sc) (hB : B + 430 < 2147483648) (hz : AR sc i z1 z2 z3 z4) (hb : 2 ≤ b.1 ∧ 100 ≤ b.2) : lwG 920 w B sc i b := by
  obtain ⟨w1, c1, c2, c3⟩ := c_both h.1 hz.1.2.2 hz.2.1.2.2 hz.2.2.1.2.2
  have j1 := JJ_cT h c2 c3
  obtain ⟨w2, r1, r2, r3⟩ := r_both j1.2.2.2.2.1 hz.1.2.2 hz.2.1.2.2 hz.2.2.1.2.2
  refine ⟨_, _, b, ?_, JC_m j1 r2 r3 (by omega), by omega, by omega⟩
  rw [q_L_law_920, h.2.2.2.2.2.2]
  refine s_g hz.1.1 (s_g hz.2.1.1 (s_g hz.2.2.1.1 (s_g rfl ?_)))
  rw [hz.1.2.1, hz.2.1.2.1, hz.2.2.1.2.1]
  refine s_I c1 ?_
  rw [j1.2.2.2.2.2.2]
  refine s_g hz.1.1 (s_g hz.2.1.1 (s_g hz.2.2.1.1 (s_g rfl ?_)))
  rw [hz.1.2.1, hz.2.1.2.1, hz.2.2.1.2.1]
  exact s_I r1 (s_t rfl rfl)
theorem L_963 (h : JJ w A B sc) (hB : B + 430 < 2147483648) (hz : AR sc i z1 z2 z3 z4) (hb : 2 ≤ b.1 ∧ 100 ≤ b.2) : lwG 963 w B sc i b := by
  obtain ⟨w1, c1, c2, c3⟩ := c_either h.1 hz.1.2.2 hz.2.1.2.2 hz.2.2.1.2.2
  have j1 := JJ_cT h c2 c3
  obtain ⟨w2, r1, r2, r3⟩ := r_either j1.2.2.2.2.1 hz.1.2.2 hz.2.1.2.2 hz.2.2.1.2.2
  refine ⟨_, _, b, ?_, JC_m j1 r2 r3 (by omega), by omega, by omega⟩
  rw [q_L_law_963, h.2.2.2.2.2.2]
  refine s_g hz.1.1 (s_g hz.2.1.1 (s_g hz.2.2.1.1 (s_g rfl ?_)))
  rw [hz.1.2.1, hz.2.1.2.1, hz.2.2.1.2.1]
  refine s_I c1 ?_
  rw [j1.2.2.2.2.2.2]
  refine s_g hz.1.1 (s_g hz.2.1.1 (s_g hz.2.2.1.1 (s_g rfl ?_)))
  rw [hz.1.2.1, hz.2.1.2.1, hz.2.2.1.2.1]
  exact s_I r1 (s_t rfl rfl)
theorem L_1006 (h : JJ w A B sc) (hB : B + 430 < 2147483648) (hz : AR sc i z1 z2 z3 z4) (hb : 2 ≤ b.1 ∧ 100 ≤ b.2) : lwG 1006 w B sc i b := by
  have c1 := c_below h.1 hz.1.2.2 hz.2.1.2.2
  have j1 := JJ_id h
  obtain ⟨w2, r1, r2, r3⟩ := r_below j1.2.2.2.2.1 hz.1.2.2 hz.2.1.2.2
  refine ⟨_, _, b, ?_, JC_m j1 r2 r3 (by omega), by omega, by omega⟩
  rw [q_L_law_1006, h.2.2.2.2.2.2]
  refine s_g hz.1.1 (s_g hz.2.1.1 (s_g rfl ?_))
  rw [hz.1.2.1, hz.2.1.2.1]
  refine s_I c1 ?_
  rw [j1.2.2.2.2.2.2]
  refine s_g hz.1.1 (s_g hz.2.1.1 (s_g rfl ?_))
  rw [hz.1.2.1, hz.2.1.2.1]
  exact s_I r1 (s_t rfl rfl)
theorem L_1039 (h : JJ w A B sc) (hB : B + 430 < 2147483648) (hz : AR sc i z1 z2 z3 z4) (hb : 2 ≤ b.1 ∧ 100 ≤ b.2) : lwG 1039 w B sc i b := by
  have c1 := c_apart h.1 hz.1.2.2 hz.2.1.2.2
  have j1 := JJ_id h
  obtain ⟨w2, r1, r2, r3⟩ := r_apart j1.2.2.2.2.1 hz.1.2.2 hz.2.1.2.2
  refine ⟨_, _, b, ?_, JC_m j1 r2 r3 (by omega), by omega, by omega⟩
  rw [q_L_law_1039, h.2.2.2.2.2.2]
  refine s_g hz.1.1 (s_g hz.2.1.1 (s_g rfl ?_))
  rw [hz.1.2.1, hz.2.1.2.1]
  refine s_I c1 ?_
  rw [j1.2.2.2.2.2.2]
  refine s_g hz.1.1 (s_g hz.2.1.1 (s_g rfl ?_))
  rw [hz.1.2.1, hz.2.1.2.1]
  exact s_I r1 (s_t rfl rfl)
theorem L_1141 (h : JJ w A B sc) (hB : B + 430 < 2147483648) (hz : AR sc i z1 z2 z3 z4) (hb : 2 ≤ b.1 ∧ 100 ≤ b.2) : lwG 1141 w B sc i b := by
  obtain ⟨w1, c1, c2, c3⟩ := c_toward h.1 hz.1.2.2 hz.2.1.2.2
  have j1 := JJ_cT h c2 c3
  obtain ⟨w2, r1, r2, r3⟩ := r_toward j1.2.2.2.2.1 hz.1.2.2 hz.2.1.2.2
  refine ⟨_, _, b, ?_, JC_m j1 r2 r3 (by omega), by omega, by omega⟩
  rw [q_L_law_1141, h.2.2.2.2.2.2]
  refine s_g hz.1.1 (s_g hz.2.1.1 (s_g rfl ?_))
  rw [hz.1.2.1, hz.2.1.2.1]
  refine s_I c1 ?_
  rw [j1.2.2.2.2.2.2]
  refine s_g hz.1.1 (s_g hz.2.1.1 (s_g rfl ?_))
  rw [hz.1.2.1, hz.2.1.2.1]
  exact s_I r1 (s_t rfl rfl)
theorem L_1174 (h : JJ w A B sc) (hB : B + 430 < 2147483648) (hz : AR sc i z1 z2 z3 z4) (hb : 2 ≤ b.1 ∧ 100 ≤ b.2) : lwG 1174 w B sc i b := by
  obtain ⟨w1, c1, c2, c3⟩ := c_turn h.1 hz.1.2.2
  have j1 := JJ_cT h c2 c3
  obtain ⟨w2, r1, r2, r3⟩ := r_turn j1.2.2.2.2.1 hz.1.2.2
  refine ⟨_, _, b, ?_, JC_m j1 r2 r3 (by omega), by omega, by omega⟩
  rw [q_L_law_1174, h.2.2.2.2.2.2]
  refine s_g hz.1.1 (s_g rfl ?_)
  rw [hz.1.2.1]
  refine s_I c1 ?_
  rw [j1.2.2.2.2.2.2]
  refine s_g hz.1.1 (s_g rfl ?_)
  rw [hz.1.2.1]
  exact s_I r1 (s_t rfl rfl)
theorem L_1197 (h : JJ w A B sc) (hB : B + 430 < 2147483648) (hz : AR sc i z1 z2 z3 z4) (hb : 2 ≤ b.1 ∧ 100 ≤ b.2) : lwG 1197 w B sc i b := by
  obtain ⟨w1, c1, c2, c3⟩ := c_move h.1 hz.1.2.2 hz.2.1.2.2
  have j1 := JJ_cT h c2 c3
  obtain ⟨w2, r1, r2, r3⟩ := r_move j1.2.2.2.2.1 hz.1.2.2 hz.2.1.2.2
  refine ⟨_, _, (b.1 - 1, b.2 - 100), ?_, JC_m j1 r2 r3 (by omega), show b.1 ≤ b.1 - 1 + 2 by omega, show b.2 ≤ b.2 - 100 + 100 by omega⟩
  rw [q_L_law_1197, h.2.2.2.2.2.2]
  refine s_g hz.1.1 (s_g hz.2.1.1 (s_g rfl ?_))
  rw [hz.1.2.1, hz.2.1.2.1]
  refine s_I c1 ?_
  rw [j1.2.2.2.2.2.2]
  refine s_g hz.1.1 (s_g hz.2.1.1 (s_g rfl (s_g ?_ ?_)))
  · rw [Nat.ble_eq_true_of_le (show 1 ≤ b.1 by omega), Nat.ble_eq_true_of_le (show 100 ≤ b.2 by omega)]; rfl
  · rw [hz.1.2.1, hz.2.1.2.1]
    exact s_I r1 (s_t rfl rfl)
theorem L_1230 (h : JJ w A B sc) (hB : B + 430 < 2147483648) (hz : AR sc i z1 z2 z3 z4) (hb : 2 ≤ b.1 ∧ 100 ≤ b.2) : lwG 1230 w B sc i b := by
  obtain ⟨w1, c1, c2, c3, c4, c5, c6⟩ := c_alike h.1 h.2.1 h.2.2.1 h.2.2.2.1 hB hz.1.2.2
  have j1 := JJ_aS h c2 c3 c4 c5 c6
  obtain ⟨w2, r1, r2, r3, r4⟩ := r_alike j1.2.2.2.2.1 j1.2.2.2.2.2.1 hz.1.2.2
  refine ⟨_, _, (b.1 - 2, b.2 - 35), ?_, JC_w j1 r2 r3 r4 (by omega), show b.1 ≤ b.1 - 2 + 2 by omega, show b.2 ≤ b.2 - 35 + 100 by omega⟩
  rw [q_L_law_1230, h.2.2.2.2.2.2]
  refine s_g hz.1.1 (s_g rfl ?_)
  rw [hz.1.2.1]
  refine s_I c1 ?_
  rw [j1.2.2.2.2.2.2]
  refine s_g hz.1.1 (s_g rfl (s_g ?_ ?_))
  · rw [Nat.ble_eq_true_of_le (show 2 ≤ b.1 by omega), Nat.ble_eq_true_of_le (show 35 ≤ b.2 by omega)]; rfl
  · rw [hz.1.2.1]
    exact s_I r1 (s_t rfl rfl)
theorem L_774 (h : JJ w A B sc) (hB : B + 430 < 2147483648) (hz : AR sc i z1 z2 z3 z4) (hb : 2 ≤ b.1 ∧ 100 ≤ b.2) : lwG 774 w B sc i b := by
  obtain ⟨l, hl, hl2⟩ := lI_ex ((((iI z3).toInt64) <<< ((iI 32).toInt64 &&& 63)) ||| (((iI z4).toInt64) &&& (lI 4294967295)))
  obtain ⟨w1, c1, c2, c3, c4⟩ := c_of h.1 h.2.1 hz.1.2.2 hz.2.1.2.2 hl2
  have j1 := JJ_cU h c2 c3 c4
  obtain ⟨w2, r1, r2, r3, r4⟩ := r_of j1.2.2.2.2.1 j1.2.2.2.2.2.1 hz.1.2.2 hz.2.1.2.2 hl2
  refine ⟨_, _, b, ?_, JC_w j1 r2 r3 r4 (by omega), by omega, by omega⟩
  rw [q_L_law_774, h.2.2.2.2.2.2]
  refine s_g hz.1.1 (s_g hz.2.1.1 (s_g hz.2.2.1.1 (s_g hz.2.2.2.1 (s_g rfl ?_))))
  rw [hz.1.2.1, hz.2.1.2.1, hz.2.2.1.2.1, hz.2.2.2.2.1, hl]
  refine s_I c1 ?_
  rw [j1.2.2.2.2.2.2]
  refine s_g hz.1.1 (s_g hz.2.1.1 (s_g hz.2.2.1.1 (s_g hz.2.2.2.1 (s_g rfl ?_))))
  rw [hz.1.2.1, hz.2.1.2.1, hz.2.2.1.2.1, hz.2.2.2.2.1, hl]
  exact s_I r1 (s_t rfl rfl)
theorem L_847 (h : JJ w A B sc) (hB : B + 430 < 2147483648) (hz : AR sc i z1 z2 z3 z4) (hb : 2 ≤ b.1 ∧ 100 ≤ b.2) : lwG 847 w B sc i b := by
  obtain ⟨w1, c1, c2, c3, c4⟩ := c_draw h.1 h.2.1 ((((iI z3).toInt64) <<< ((iI 32).toInt64 &&& 63)) ||| (((iI z4).toInt64) &&& (lI 4294967295))) hz.1.2.2 hz.2.1.2.2
  have j1 := JJ_cU h c2 c3 c4
  obtain ⟨w2, r1, r2, r3, r4⟩ := r_draw j1.2.2.2.2.1 j1.2.2.2.2.2.1 ((((iI z3).toInt64) <<< ((iI 32).toInt64 &&& 63)) ||| (((iI z4).toInt64) &&& (lI 4294967295))) hz.1.2.2 hz.2.1.2.2
  refine ⟨_, _, b, ?_, JC_w j1 r2 r3 r4 (by omega), by omega, by omega⟩
  rw [q_L_law_847, h.2.2.2.2.2.2]
  refine s_g hz.1.1 (s_g hz.2.1.1 (s_g hz.2.2.1.1 (s_g hz.2.2.2.1 (s_g rfl ?_))))
  rw [hz.1.2.1, hz.2.1.2.1, hz.2.2.1.2.1, hz.2.2.2.2.1]
  refine s_I c1 ?_
  rw [j1.2.2.2.2.2.2]
  refine s_g hz.1.1 (s_g hz.2.1.1 (s_g hz.2.2.1.1 (s_g hz.2.2.2.1 (s_g rfl ?_))))
  rw [hz.1.2.1, hz.2.1.2.1, hz.2.2.1.2.1, hz.2.2.2.2.1]
  exact s_I r1 (s_t rfl rfl)
theorem L_428 (h : JJ w A B sc) (hB : B + 430 < 2147483648) (hz : AR sc i z1 z2 z3 z4) (hb : 2 ≤ b.1 ∧ 100 ≤ b.2) : lwG 428 w B sc i b := by
  have c1 := c_arrow h.1 (decide (z2 ≠ 0)) hz.1.2.2 hz.2.2.1.2.2 hz.2.2.2.2.2
  have j1 := JJ_id h
  obtain ⟨w2, r1, r2, r3⟩ := r_arrow j1.2.2.2.2.1 (decide (z2 ≠ 0)) hz.1.2.2 hz.2.2.1.2.2 hz.2.2.2.2.2
  have i2 := hz.2.1.2.2
  refine ⟨_, _, b, ?_, JC_m j1 r2 r3 (by omega), by omega, by omega⟩
  have m2 : xr L_law 0 479 [some (.retAddr 4), some (.ref 0), some (.ref 34), some (.int (iI i))] [.int (bI (decide (z2 ≠ 0))), .int (iI z1), .ref 34, .int (iI (o_arrow A z1 (decide (z2 ≠ 0)) z3 z4))] b w = xr L_law 0 1253 [some (.retAddr 4), some (.ref 0), some (.ref 34), some (.int (iI i))] [] b w2 := by
    rw [q_L_law_479, h.2.2.2.2.2.2]
    refine s_g hz.2.2.1.1 (s_g hz.2.2.2.1 (s_g rfl ?_))
    rw [hz.2.2.1.2.1, hz.2.2.2.2.1]
    exact s_I r1 (s_t rfl rfl)
  have m1 : xr L_law 0 447 [some (.retAddr 4), some (.ref 0), some (.ref 34), some (.int (iI i))] [.int (bI (decide (z2 ≠ 0))), .int (iI z1), .ref 0] b w = xr L_law 0 1253 [some (.retAddr 4), some (.ref 0), some (.ref 34), some (.int (iI i))] [] b w2 := by
    rw [q_L_law_447, h.2.2.2.2.2.2]
    refine s_g hz.2.2.1.1 (s_g hz.2.2.2.1 (s_g rfl ?_))
    rw [hz.2.2.1.2.1, hz.2.2.2.2.1]
    refine s_I c1 ?_
    rw [h.2.2.2.2.2.2]
    refine s_g hz.1.1 (s_g hz.2.1.1 ?_)
    rw [hz.1.2.1, hz.2.1.2.1, iI_zero]
    by_cases q : z2 = 0
    · refine s_eqt q ?_
      rw [q_L_law_478]
      rw [decide_eq_false (fun z => z q)] at m2 ⊢
      exact m2
    · refine s_eqf ⟨q, i2, by decide⟩ ?_
      rw [decide_eq_true q] at m2 ⊢
      exact m2
  rw [q_L_law_428, h.2.2.2.2.2.2]
  refine s_g hz.1.1 (s_g hz.2.1.1 ?_)
  rw [hz.1.2.1, hz.2.1.2.1, iI_zero]
  by_cases q : z2 = 0
  · refine s_eqt q ?_
    rw [q_L_law_446]
    rw [decide_eq_false (fun z => z q)] at m1
    exact m1
  · refine s_eqf ⟨q, i2, by decide⟩ ?_
    rw [decide_eq_true q] at m1
    exact m1
theorem L_497 (h : JJ w A B sc) (hB : B + 430 < 2147483648) (hz : AR sc i z1 z2 z3 z4) (hb : 2 ≤ b.1 ∧ 100 ≤ b.2) : lwG 497 w B sc i b := by
  have c1 := c_held h.1 (decide (z2 ≠ 0)) hz.1.2.2 hz.2.2.1.2.2 hz.2.2.2.2.2
  have j1 := JJ_id h
  obtain ⟨w2, r1, r2, r3⟩ := r_held j1.2.2.2.2.1 (decide (z2 ≠ 0)) hz.1.2.2 hz.2.2.1.2.2 hz.2.2.2.2.2
  have i2 := hz.2.1.2.2
  refine ⟨_, _, b, ?_, JC_m j1 r2 r3 (by omega), by omega, by omega⟩
  have m2 : xr L_law 0 548 [some (.retAddr 4), some (.ref 0), some (.ref 34), some (.int (iI i))] [.int (bI (decide (z2 ≠ 0))), .int (iI z1), .ref 34, .int (iI (o_held A z1 (decide (z2 ≠ 0)) z3 z4))] b w = xr L_law 0 1253 [some (.retAddr 4), some (.ref 0), some (.ref 34), some (.int (iI i))] [] b w2 := by
    rw [q_L_law_548, h.2.2.2.2.2.2]
    refine s_g hz.2.2.1.1 (s_g hz.2.2.2.1 (s_g rfl ?_))
    rw [hz.2.2.1.2.1, hz.2.2.2.2.1]
    exact s_I r1 (s_t rfl rfl)
  have m1 : xr L_law 0 516 [some (.retAddr 4), some (.ref 0), some (.ref 34), some (.int (iI i))] [.int (bI (decide (z2 ≠ 0))), .int (iI z1), .ref 0] b w = xr L_law 0 1253 [some (.retAddr 4), some (.ref 0), some (.ref 34), some (.int (iI i))] [] b w2 := by
    rw [q_L_law_516, h.2.2.2.2.2.2]
    refine s_g hz.2.2.1.1 (s_g hz.2.2.2.1 (s_g rfl ?_))
    rw [hz.2.2.1.2.1, hz.2.2.2.2.1]
    refine s_I c1 ?_
    rw [h.2.2.2.2.2.2]
    refine s_g hz.1.1 (s_g hz.2.1.1 ?_)
    rw [hz.1.2.1, hz.2.1.2.1, iI_zero]
    by_cases q : z2 = 0
    · refine s_eqt q ?_
      rw [q_L_law_547]
      rw [decide_eq_false (fun z => z q)] at m2 ⊢
      exact m2
    · refine s_eqf ⟨q, i2, by decide⟩ ?_
      rw [decide_eq_true q] at m2 ⊢
      exact m2
  rw [q_L_law_497, h.2.2.2.2.2.2]
  refine s_g hz.1.1 (s_g hz.2.1.1 ?_)
  rw [hz.1.2.1, hz.2.1.2.1, iI_zero]
  by_cases q : z2 = 0
  · refine s_eqt q ?_
    rw [q_L_law_515]
    rw [decide_eq_false (fun z => z q)] at m1
    exact m1
  · refine s_eqf ⟨q, i2, by decide⟩ ?_
    rw [decide_eq_true q] at m1
    exact m1
theorem L_1072 (h : JJ w A B sc) (hB : B + 430 < 2147483648) (hz : AR sc i z1 z2 z3 z4) (hb : 2 ≤ b.1 ∧ 100 ≤ b.2) : lwG 1072 w B sc i b := by
  obtain ⟨w1, c1, c2, c3⟩ := c_step h.1 (decide (z4 ≠ 0)) hz.1.2.2 hz.2.1.2.2 hz.2.2.1.2.2
  have j1 := JJ_cT h c2 c3
  obtain ⟨w2, r1, r2, r3⟩ := r_step j1.2.2.2.2.1 (decide (z4 ≠ 0)) hz.1.2.2 hz.2.1.2.2 hz.2.2.1.2.2
  have i4 := hz.2.2.2.2.2
  refine ⟨_, _, b, ?_, JC_m j1 r2 r3 (by omega), by omega, by omega⟩
  have m2 : xr L_law 0 1133 [some (.retAddr 4), some (.ref 0), some (.ref 34), some (.int (iI i))] [.int (bI (decide (z4 ≠ 0))), .int (iI z3), .int (iI z2), .int (iI z1), .ref 34, .int (bI (o_step A z1 z2 z3 (decide (z4 ≠ 0))).1)] b w1 = xr L_law 0 1253 [some (.retAddr 4), some (.ref 0), some (.ref 34), some (.int (iI i))] [] b w2 := by
    rw [q_L_law_1133]
    exact s_g rfl (s_I r1 (s_t rfl rfl))
  have m1 : xr L_law 0 1101 [some (.retAddr 4), some (.ref 0), some (.ref 34), some (.int (iI i))] [.int (bI (decide (z4 ≠ 0))), .int (iI z3), .int (iI z2), .int (iI z1), .ref 0] b w = xr L_law 0 1253 [some (.retAddr 4), some (.ref 0), some (.ref 34), some (.int (iI i))] [] b w2 := by
    rw [q_L_law_1101]
    refine s_g rfl (s_I c1 ?_)
    rw [j1.2.2.2.2.2.2]
    refine s_g hz.1.1 (s_g hz.2.1.1 (s_g hz.2.2.1.1 (s_g hz.2.2.2.1 ?_)))
    rw [hz.1.2.1, hz.2.1.2.1, hz.2.2.1.2.1, hz.2.2.2.2.1, iI_zero]
    by_cases q : z4 = 0
    · refine s_eqt q ?_
      rw [q_L_law_1132]
      rw [decide_eq_false (fun z => z q)] at m2 ⊢
      exact m2
    · refine s_eqf ⟨q, i4, by decide⟩ ?_
      rw [decide_eq_true q] at m2 ⊢
      exact m2
  rw [q_L_law_1072, h.2.2.2.2.2.2]
  refine s_g hz.1.1 (s_g hz.2.1.1 (s_g hz.2.2.1.1 (s_g hz.2.2.2.1 ?_)))
  rw [hz.1.2.1, hz.2.1.2.1, hz.2.2.1.2.1, hz.2.2.2.2.1, iI_zero]
  by_cases q : z4 = 0
  · refine s_eqt q ?_
    rw [q_L_law_1100]
    rw [decide_eq_false (fun z => z q)] at m1
    exact m1
  · refine s_eqf ⟨q, i4, by decide⟩ ?_
    rw [decide_eq_true q] at m1
    exact m1
end XLAW1
