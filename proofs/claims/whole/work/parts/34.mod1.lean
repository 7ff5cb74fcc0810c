/-! ===== THE REFERENCE, 1 (own work): its state; the draft, plain reads ===== -/
theorem lI_add (a b : Int) : lI a + lI b = lI (a + b) := (Int64.ofInt_add a b).symm
theorem lI_sub (a b : Int) : lI a - lI b = lI (a - b) := (Int64.ofInt_sub a b).symm
theorem lI_mul (a b : Int) : lI a * lI b = lI (a * b) := (Int64.ofInt_mul a b).symm
abbrev i64 (a : Int) : Prop := -9223372036854775808 ≤ a ∧ a < 9223372036854775808
theorem lI_val {a : Int} (h : i64 a) : (lI a).toInt = a := Int64.toInt_ofInt_of_le h.1 h.2
theorem lI_le {a b : Int} (ha : i64 a) (hb : i64 b) : lI a ≤ lI b ↔ a ≤ b := by rw [Int64.le_iff_toInt_le, lI_val ha, lI_val hb]
theorem lI_lt {a b : Int} (ha : i64 a) (hb : i64 b) : lI a < lI b ↔ a < b := by rw [Int64.lt_iff_toInt_lt, lI_val ha, lI_val hb]
theorem lI_eq {a b : Int} (ha : i64 a) (hb : i64 b) : lI a = lI b ↔ a = b := by
  refine ⟨fun h => ?_, fun h => by rw [h]⟩
  have := congrArg Int64.toInt h
  rwa [lI_val ha, lI_val hb] at this
theorem lI_ex (x : Int64) : ∃ z : Int, x = lI z ∧ i64 z := ⟨x.toInt, (Int64.ofInt_toInt x).symm, x.le_toInt, x.toInt_lt⟩
theorem iI_64 {a : Int} (h : i32 a) : (iI a).toInt64 = lI a := Int64.toInt_inj.1 (by rw [Int32.toInt_toInt64, iI_val h, lI_val (by omega)])
theorem cmp_0 (x y : Int64) : lg_cmp x y = 0 ↔ x = y := by
  unfold lg_cmp
  constructor
  · intro h
    split at h
    · cases h
    · split at h
      · assumption
      · cases h
  · intro h
    subst h
    have := Int64.lt_irrefl (a := x)
    simp [this]
/-- what the reference's methods leave: its own cells alone, and its numbers of ways -/
def mT (q : Nat) : Bool := decide (34 ≤ q)
def mFr (w w' : XW) : Prop := xFr mT w w' ∧ xIF w' 34 10 = xIF w 34 10 ∧ xLA w' 39 = xLA w 39
theorem mFr.rf (w : XW) : mFr w w := ⟨xFr.rf _ _, rfl, rfl⟩
theorem mFr.tr {w w1 w2 : XW} (h : mFr w w1) (g : mFr w1 w2) : mFr w w2 := ⟨h.1.tr g.1, g.2.1.trans h.2.1, g.2.2.trans h.2.2⟩
theorem mFr_F {w : XW} {k : Nat} {v : Int32} (h : k ≠ 10) : mFr w (xpF w 34 k v) := ⟨fr_pF rfl, by rw [f_pF, if_pos rfl, if_neg (fun q => h q.symm)], rfl⟩
theorem mFr_I {w : XW} {a k : Nat} {v : Int32} (h : 34 ≤ a) : mFr w (xpI w a k v) := ⟨fr_pI (decide_eq_true h), rfl, rfl⟩
def rt (w : XW) (p n : Nat) (C : Nat → Nat → Int) : Prop := (1 ≤ n ∧ n ≤ 10) ∧ asm n C ∧ xIA w 35 p = iI n ∧ ∀ i j, i < n → j < n → xIA w 36 ((p * 10 + i) * 10 + j) = iI (dA C i j)
def rd (w : XW) (s n : Nat) (d : Nat → Int) : Prop := s ≤ 2 ∧ (1 ≤ n ∧ n ≤ 10) ∧ xIF w 34 3 = iI s ∧ xIF w 34 4 = iI n ∧ ∀ k, k < 121 → xIA w 37 k = iI (d k) ∧ i32 (d k)
def IM (w : XW) (A : AS) : Prop := XG w ∧ (∀ p, p < 8 → rt w p (A.1 p) (A.2.1 p)) ∧ rd w A.2.2.1 A.2.2.2.1 A.2.2.2.2
theorem IM_fr {w w' : XW} {A : AS} {S : Nat → Bool} (h : IM w A) (f : xFr S w w') (hS : ∀ q, 34 ≤ q → q < 38 → S q = false) : IM w' A := by
  refine ⟨f.G h.1, fun p hp => ?_, ?_⟩
  · have g := h.2.1 p hp
    refine ⟨g.1, g.2.1, ?_, ?_⟩
    · rw [f.a (by decide) (hS 35 (by decide) (by decide))]; exact g.2.2.1
    · rw [f.a (by decide) (hS 36 (by decide) (by decide))]; exact g.2.2.2
  · have g := h.2.2
    refine ⟨g.1, g.2.1, ?_, ?_, ?_⟩
    · rw [f.f (by decide) (hS 34 (by decide) (by decide))]; exact g.2.2.1
    · rw [f.f (by decide) (hS 34 (by decide) (by decide))]; exact g.2.2.2.1
    · rw [f.a (by decide) (hS 37 (by decide) (by decide))]; exact g.2.2.2.2
/-- a field of the reference that the picture does not speak of -/
theorem IM_F {w : XW} {A : AS} {k : Nat} {v : Int32} (h : IM w A) (hk : k ≠ 3 ∧ k ≠ 4) : IM (xpF w 34 k v) A := by
  refine ⟨(fr_pF (S := mT) (w := w) rfl).G h.1, h.2.1, h.2.2.1, h.2.2.2.1, ?_, ?_, h.2.2.2.2.2.2⟩
  · rw [f_pF, if_pos rfl, if_neg (fun q => hk.1 q.symm)]; exact h.2.2.2.2.1
  · rw [f_pF, if_pos rfl, if_neg (fun q => hk.2 q.symm)]; exact h.2.2.2.2.2.1
section XMOD
variable {w : XW} {A : AS}
theorem r_isPlace {z : Int} (hz : i32 z) : xm M_isPlace 0 [.int (iI z)] w = some (.int (bI (decide (0 ≤ z ∧ z < 8))), w) := by
  rw [e_M_isPlace, q_M_isPlace_0, iI_zero]
  by_cases h1 : z < 0
  · refine s_ltt (by omega) ?_
    rw [q_M_isPlace_14, q_M_isPlace_15, xbz_0, decide_eq_false (by omega)]
  · refine s_ltf (by omega) ?_
    by_cases h2 : 8 ≤ z
    · refine s_let (by omega) ?_
      rw [q_M_isPlace_14, q_M_isPlace_15, xbz_0, decide_eq_false (by omega)]
    · refine s_lef (by omega) ?_
      rw [q_M_isPlace_15, xbz_1, decide_eq_true (by omega)]
theorem r_knows {z : Int} (hz : i32 z) : xm M_knows 0 [.ref 34, .int (iI z)] w = some (.int (bI (decide (0 ≤ z ∧ z < 8))), xpF w 34 0 (iI 0)) := by
  rw [e_M_knows, q_M_knows_0]
  exact s_g rfl (s_I (r_isPlace hz) (xbz_b _ _))
theorem r_a (hG : XG w) {p n : Nat} {C : Nat → Nat → Int} (h : rt w p n C) (hp : p < 8) {zp zi zj : Int} (i j : Nat) (hh : zp = p ∧ zi = i ∧ zj = j ∧ i < n ∧ j < n) : xm M_a 0 [.ref 34, .int (iI zp), .int (iI zi), .int (iI zj)] w = some (.int (iI (dA C i j)), w) := by
  have hn := h.1
  obtain ⟨rfl, rfl, rfl, hi, hj⟩ := hh
  rw [e_M_a, q_M_a_0]
  simp only [iI_mul, iI_add]
  refine s_g rfl (s_o (hG.r (by decide) rfl) (s_g (xin_t (n := 800) (by omega)) ?_))
  rw [iI_nat (by omega), show (((p : Int) * 10 + i) * 10 + j).toNat = (p * 10 + i) * 10 + j by omega, h.2.2.2 i j hi hj]
theorem r_aw (hG : XG w) {zp zi zj : Int} (p i j : Nat) (hh : zp = p ∧ zi = i ∧ zj = j ∧ p < 8 ∧ i < 10 ∧ j < 10) (v : Int32) : xm M_a_ 0 [.ref 34, .int (iI zp), .int (iI zi), .int (iI zj), .int v] w = some (.null, xpI w 36 ((p * 10 + i) * 10 + j) v) := by
  obtain ⟨rfl, rfl, rfl, hp, hi, hj⟩ := hh
  rw [e_M_a_, q_M_a__0]
  simp only [iI_mul, iI_add]
  refine s_g rfl (s_o (hG.r (by decide) rfl) (s_g (xin_t (n := 800) (by omega)) ?_))
  rw [iI_nat (by omega), show (((p : Int) * 10 + i) * 10 + j).toNat = (p * 10 + i) * 10 + j by omega]
theorem r_d (hG : XG w) {s n : Nat} {d : Nat → Int} (h : rd w s n d) {zi zj : Int} (i j : Nat) (hh : zi = i ∧ zj = j ∧ i ≤ 10 ∧ j ≤ 10) : xm M_d 0 [.ref 34, .int (iI zi), .int (iI zj)] w = some (.int (iI (d (i * 11 + j))), w) := by
  obtain ⟨rfl, rfl, hi, hj⟩ := hh
  rw [e_M_d, q_M_d_0, iI_mul, iI_add]
  refine s_g rfl (s_o (hG.r (by decide) rfl) (s_g (xin_t (n := 121) (by omega)) ?_))
  rw [iI_nat (by omega), show (11 * (i : Int) + (j : Int)).toNat = i * 11 + j by omega, (h.2.2.2.2 _ (by omega)).1]
theorem r_isIn {zp zi zj zm : Int} (hi : i32 zi) (hj : i32 zj) (hm : i32 zm) : xm M_isIn 0 [.ref 34, .int (iI zp), .int (iI zi), .int (iI zj), .int (iI zm)] w = some (.int (bI (decide ((0 ≤ zi ∧ zi ≤ zm) ∧ (0 ≤ zj ∧ zj ≤ zm)))), w) := by
  rw [e_M_isIn, q_M_isIn_0, iI_zero]
  have no : ¬ ((0 ≤ zi ∧ zi ≤ zm) ∧ (0 ≤ zj ∧ zj ≤ zm)) → xr M_isIn 0 24 [some (.ref 34), some (.int (iI zp)), some (.int (iI zi)), some (.int (iI zj)), some (.int (iI zm))] [] (0, 0) w = some (.int (bI (decide ((0 ≤ zi ∧ zi ≤ zm) ∧ (0 ≤ zj ∧ zj ≤ zm)))), w) := fun q => by rw [q_M_isIn_24, q_M_isIn_25, xbz_0, decide_eq_false q]
  by_cases h1 : zi < 0
  · exact s_ltt (by omega) (no (by omega))
  · refine s_ltf (by omega) ?_
    by_cases h2 : zj < 0
    · exact s_ltt (by omega) (no (by omega))
    · refine s_ltf (by omega) ?_
      by_cases h3 : zm < zi
      · exact s_ltt (by omega) (no (by omega))
      · refine s_ltf (by omega) ?_
        by_cases h4 : zm < zj
        · exact s_ltt (by omega) (no (by omega))
        · refine s_ltf (by omega) ?_
          rw [q_M_isIn_25, xbz_1, decide_eq_true (by omega)]
theorem r_corner (hG : XG w) {p n : Nat} {C : Nat → Nat → Int} (h : rt w p n C) (hp : p < 8) {zp zi zj : Int} (i j : Nat) (hh : zp = p ∧ zi = i ∧ zj = j ∧ i ≤ n ∧ j ≤ n) : xm M_corner 0 [.ref 34, .int (iI zp), .int (iI zi), .int (iI zj)] w = some (.int (iI (C i j)), w) := by
  have hn := h.1
  obtain ⟨rfl, rfl, rfl, hi, hj⟩ := hh
  rw [e_M_corner, q_M_corner_0]
  refine x_nest (fun (r : Nat) (s : Int) (u : Option Value) => xr M_corner 0 6 [some (.ref 34), some (.int (iI (p : Int))), some (.int (iI (i : Int))), some (.int (iI (j : Int))), some (.int (iI s)), some (.int (iI r)), u] [] (0, 0) w)
    (fun (r c : Nat) (s : Int) (_ : Unit) => xr M_corner 0 15 [some (.ref 34), some (.int (iI (p : Int))), some (.int (iI (i : Int))), some (.int (iI (j : Int))), some (.int (iI s)), some (.int (iI r)), some (.int (iI c))] [] (0, 0) w) i (fun _ => j)
    (fun r c s => s = sumF (fun r => sumF (fun c => dA C r c) j) r + sumF (fun c => dA C r c) c) (fun o => o = some (.int (iI (C i j)), w))
    (fun r s u hr hq => ⟨(), ?_⟩) (fun r c s v hr hc hq => Or.inr ⟨s + dA C r c, (), ?_, ?_⟩) (fun r s v hr hq => ⟨some (.int (iI j)), ?_, ?_⟩) (fun s u hq => ?_) 0 none rfl
  · rw [q_M_corner_6]
    exact s_lef (by omega) rfl
  · rw [q_M_corner_15]
    refine s_lef (by omega) (s_g rfl (s_I (r_a hG h hp r c (by omega)) ?_))
    rw [iI_add, iI_add]; rfl
  · rw [hq, Int.add_assoc]; rfl
  · rw [q_M_corner_15]
    refine s_let (by omega) ?_
    rw [q_M_corner_41, iI_add]; rfl
  · rw [hq]; exact (Int.add_zero _).symm
  · rw [q_M_corner_6]
    refine s_let (by omega) ?_
    rw [q_M_corner_47, hq, show sumF (fun c => dA C i c) 0 = 0 from rfl, Int.add_zero, sum_corner h.2.1 hi hj]
theorem xln34 (w : XW) : xln w 37 = 121 := rfl
theorem r_begin (h : IM w A) {zs zn : Int} (hs : i32 zs) (hn : i32 zn) : ∃ w', xm M_begin 0 [.ref 34, .int (iI zs), .int (iI zn)] w = some (.int (bI (o_begin A zs zn).1), w') ∧ IM w' (o_begin A zs zn).2 ∧ mFr w w' := by
  have h0 := IM_F (k := 0) (v := iI 0) h (by decide)
  have f0 : mFr w (xpF w 34 0 (iI 0)) := mFr_F (by decide)
  rw [e_M_begin, q_M_begin_0, iI_zero]
  have no : ¬ ((0 ≤ zs ∧ zs ≤ 2) ∧ (1 ≤ zn ∧ zn ≤ 10)) → ∀ o, o = xr M_begin 0 25 [some (.ref 34), some (.int (iI zs)), some (.int (iI zn)), none] [] (0, 0) (xpF w 34 0 (iI 0)) → ∃ w', xg (xok 34 7) o = some (.int (bI (o_begin A zs zn).1), w') ∧ IM w' (o_begin A zs zn).2 ∧ mFr w w' := fun q o ho => by
    rw [show o_begin A zs zn = (false, A) from if_neg q]
    refine ⟨_, s_g rfl ?_, h0, f0⟩
    rw [ho, q_M_begin_25, xbz_0]
  by_cases h1 : zs < 0
  · exact no (by omega) _ (s_ltt (by omega) rfl)
  · by_cases h2 : 2 < zs
    · exact no (by omega) _ (s_ltf (by omega) (s_ltt (by omega) rfl))
    · by_cases h3 : zn < 1
      · exact no (by omega) _ (s_ltf (by omega) (s_ltf (by omega) (s_ltt (by omega) rfl)))
      · by_cases h4 : zn ≤ 10
        · rw [show o_begin A zs zn = (true, setD A zs.toNat zn.toNat (fun _ => 0)) from if_pos ⟨by omega, by omega⟩]
          have key : ∃ w', xr M_begin 0 39 [some (.ref 34), some (.int (iI zs)), some (.int (iI zn)), some (.int (iI ((0 : Nat) : Int)))] [] (0, 0) (xpF (xpF (xpF w 34 0 (iI 0)) 34 3 (iI zs)) 34 4 (iI zn)) = some (.int (bI true), w') ∧ mFr w w' ∧ xIF w' 34 3 = iI zs ∧ xIF w' 34 4 = iI zn ∧ xIA w' 35 = xIA w 35 ∧ xIA w' 36 = xIA w 36 ∧ ∀ k, k < 121 → xIA w' 37 k = iI 0 := by
            refine x_loop (fun (k : Nat) (t : XW) (_ : Unit) => xr M_begin 0 39 [some (.ref 34), some (.int (iI zs)), some (.int (iI zn)), some (.int (iI k))] [] (0, 0) t) 121
              (fun k t => mFr w t ∧ xIF t 34 3 = iI zs ∧ xIF t 34 4 = iI zn ∧ xIA t 35 = xIA w 35 ∧ xIA t 36 = xIA w 36 ∧ ∀ q, q < k → xIA t 37 q = iI 0) (fun o => ∃ w', o = some (.int (bI true), w') ∧ mFr w w' ∧ xIF w' 34 3 = iI zs ∧ xIF w' 34 4 = iI zn ∧ xIA w' 35 = xIA w 35 ∧ xIA w' 36 = xIA w 36 ∧ ∀ k, k < 121 → xIA w' 37 k = iI 0)
              (fun k t u hk hp => Or.inr ⟨xpI t 37 k (iI 0), (), ?_, hp.1.tr (mFr_I (by decide)), hp.2.1, hp.2.2.1, ?_, ?_, fun q hq => ?_⟩) (fun t u hp => ⟨t, ?_, hp⟩) _ () ⟨(f0.tr (mFr_F (by decide))).tr (mFr_F (by decide)), ?_, ?_, rfl, rfl, fun q hq => absurd hq (Nat.not_lt_zero _)⟩
            · have hG := hp.1.1.G h.1
              rw [q_M_begin_39, iI_natk k (by omega), iI_add]
              refine s_g rfl (s_o (hG.r (by decide) rfl) (s_g rfl ?_))
              rw [xln34]
              refine s_lef (by omega) (s_g rfl (s_o (hG.r (by decide) rfl) (s_g (xin_t (n := 121) (by omega)) rfl)))
            · rw [← hp.2.2.2.1]; exact funext fun j => (by rw [a_pI, if_neg (by decide)])
            · rw [← hp.2.2.2.2.1]; exact funext fun j => (by rw [a_pI, if_neg (by decide)])
            · rw [a_pI, if_pos rfl]
              by_cases e : q = k
              · rw [if_pos e]
              · rw [if_neg e]; exact hp.2.2.2.2.2 q (by omega)
            · have hG := hp.1.1.G h.1
              rw [q_M_begin_39]
              refine s_g rfl (s_o (hG.r (by decide) rfl) (s_g rfl ?_))
              rw [xln34]
              refine s_let (by omega) ?_
              rw [q_M_begin_61, xbz_1]
            · rw [f_pF, if_pos rfl, if_neg (by decide), f_pF, if_pos rfl, if_pos rfl]
            · rw [f_pF, if_pos rfl, if_pos rfl]
          obtain ⟨w', k1, k2, k3, k4, k5, k6, k7⟩ := key
          refine ⟨w', s_g rfl (s_ltf (by omega) (s_ltf (by omega) (s_ltf (by omega) (s_let (by omega) ?_)))), ⟨k2.1.G h.1, fun p hp => ?_, ?_⟩, k2⟩
          · rw [q_M_begin_27]
            exact s_g rfl (s_g rfl k1)
          · have g := h.2.1 p hp
            refine ⟨g.1, g.2.1, ?_, ?_⟩
            · rw [k5]; exact g.2.2.1
            · rw [k6]; exact g.2.2.2
          · refine ⟨show zs.toNat ≤ 2 by omega, show 1 ≤ zn.toNat ∧ zn.toNat ≤ 10 by omega, ?_, ?_, fun k hk => ⟨k7 k hk, (by decide : i32 0)⟩⟩
            · rw [k3]; show iI zs = iI (zs.toNat : Int); rw [show (zs.toNat : Int) = zs by omega]
            · rw [k4]; show iI zn = iI (zn.toNat : Int); rw [show (zn.toNat : Int) = zn by omega]
        · exact no (by omega) _ (s_ltf (by omega) (s_ltf (by omega) (s_ltf (by omega) (s_lef (by omega) rfl))))
end XMOD
