/-! ===== NUMBERS, 17 (own work): the reference, the table of a number, a drawn one ===== -/
def bst (P : Nat → Prop) (n k : Nat) (b : Int) : Prop := (b = -1 ∧ ∀ s, 1 ≤ s → s < k → ¬ P s) ∨ ∃ t : Nat, b = t ∧ (1 ≤ t ∧ t < k) ∧ P t ∧ ∀ s, 1 ≤ s → s < k → P s → toC n s ≤ toC n t
section XBST
variable {P : Nat → Prop} {n k : Nat} {b : Int}
theorem bst_no (h : bst P n k b) (hp : ¬ P k) : bst P n (k + 1) b := by
  rcases h with ⟨h1, h2⟩ | ⟨t, h1, h2, h3, h4⟩
  · refine Or.inl ⟨h1, fun s a1 a2 q => ?_⟩
    by_cases e : s = k
    · rw [e] at q; exact hp q
    · exact h2 s a1 (by omega) q
  · refine Or.inr ⟨t, h1, ⟨h2.1, by omega⟩, h3, fun s a1 a2 q => ?_⟩
    by_cases e : s = k
    · rw [e] at q; exact absurd q hp
    · exact h4 s a1 (by omega) q
theorem bst_new (hk : 1 ≤ k) (hp : P k) (h : bst P n k b) (hb : b = -1 ∨ ∃ t : Nat, b = t ∧ toC n t < toC n k) : bst P n (k + 1) k := by
  refine Or.inr ⟨k, rfl, ⟨hk, by omega⟩, hp, fun s a1 a2 q => ?_⟩
  by_cases e : s = k
  · rw [e]; exact Nat.le_refl _
  · rcases h with ⟨h1, h2⟩ | ⟨t, h1, h2, h3, h4⟩
    · exact absurd q (h2 s a1 (by omega))
    · have := h4 s a1 (by omega) q
      rcases hb with z | ⟨t', z1, z2⟩
      · omega
      · rw [show t' = t by omega] at z2; omega
theorem bst_keep (h : bst P n k b) (t : Nat) (hb : b = t) (hn : ¬ toC n t < toC n k) : bst P n (k + 1) b := by
  rcases h with ⟨h1, h2⟩ | ⟨t', h1, h2, h3, h4⟩
  · omega
  · have et : t' = t := by omega
    subst et
    refine Or.inr ⟨t', h1, ⟨h2.1, by omega⟩, h3, fun s a1 a2 q => ?_⟩
    by_cases e : s = k
    · rw [e]; omega
    · exact h4 s a1 (by omega) q
theorem bst_end (h : bst P n (2 ^ n) b) {y : Nat} (hy : y < 2 ^ n) (h0 : y ≠ 0) (h1 : P (toR n y)) (h2 : ∀ s, s < 2 ^ n → P s → toC n s ≤ y) : b = (toR n y : Nat) := by
  have e := toC_toR n y hy
  have hr := toR_lt n y hy
  have h3 : 1 ≤ toR n y := by
    by_cases z : toR n y = 0
    · rw [z, toC_z] at e; omega
    · omega
  rcases h with ⟨q1, q2⟩ | ⟨t, q1, q2, q3, q4⟩
  · exact absurd h1 (q2 _ h3 hr)
  · have a1 := q4 _ h3 hr h1
    have a2 := h2 t q2.2 q3
    rw [e] at a1
    rw [q1, ← show toC n t = y by omega, toR_toC n t q2.2]
theorem bst_lt (h : bst P n k b) : -1 ≤ b ∧ b < k ∨ b = -1 := by
  rcases h with ⟨q1, _⟩ | ⟨t, q1, q2, _⟩
  · exact Or.inr q1
  · exact Or.inl (by omega)
end XBST
section XNUM17
variable {w : XW} {A : AS} {n : Nat}
theorem r_firstRow (hn : 1 ≤ n ∧ n ≤ 10) {a i x : Nat} {F : List Nat} (ha : a < 2 ^ n) (hi : pop n a + 1 = i) (hF : fl n a 0 = x :: F) {za zn zi : Int} (hz : za = (toR n a : Nat) ∧ zn = n ∧ zi = i) : xm M_firstRow 0 [.ref 34, .int (iI za), .int (iI zn), .int (iI zi)] w = some (.int (iI ((toR n x : Nat) : Int)), w) := by
  obtain ⟨rfl, rfl, rfl⟩ := hz
  have p10 : (2 : Nat) ^ n ≤ 1024 := Nat.le_trans (Nat.pow_le_pow_right (by decide) hn.2) (by decide)
  have pp := pow_pos2 n
  have ea := toC_toR n a ha
  have hx : x ∈ fl n a 0 := by rw [hF]; exact List.mem_cons_self
  have hs := fl_sorted n a 0
  rw [hF, List.pairwise_cons] at hs
  have key : ∃ b : Int, xm M_firstRow 0 [.ref 34, .int (iI (toR n a : Nat)), .int (iI (n : Int)), .int (iI (i : Int))] w = some (.int (iI b), w) ∧ bst (fun s => toC n s ∈ fl n a 0) n (2 ^ n) b := by
    rw [e_M_firstRow, q_M_firstRow_0]
    refine x_loop (fun (k : Nat) (b : Int) (_ : Unit) => xr M_firstRow 0 6 [some (.ref 34), some (.int (iI (toR n a : Nat))), some (.int (iI (n : Int))), some (.int (iI (i : Int))), some (.int (iI b)), some (.int (iI ((k + 1 : Nat) : Int)))] [] (0, 0) w) (2 ^ n - 1)
      (fun k b => bst (fun s => toC n s ∈ fl n a 0) n (k + 1) b) (fun o => ∃ b : Int, o = some (.int (iI b), w) ∧ bst (fun s => toC n s ∈ fl n a 0) n (2 ^ n) b) (fun k b u hk hp => Or.inr ?_) (fun b u hp => ⟨b, ?_, by rw [show 2 ^ n - 1 + 1 = 2 ^ n by omega] at hp; exact hp⟩) (-1) () (Or.inl ⟨rfl, fun s h1 h2 => by omega⟩)
    · have hf := r_follow (w := w) (n := n) (by omega) (toR_lt n a ha) (s := k + 1) (by omega) (i := i) (by rw [← cB_pop, ea]; exact hi) (za := (toR n a : Nat)) (zs := ((k + 1 : Nat) : Int)) (zi := (i : Int)) ⟨rfl, rfl, rfl⟩
      rw [ea] at hf
      have hb := bst_lt hp
      by_cases m : toC n (k + 1) ∈ fl n a 0
      · by_cases e : b = -1
        · refine ⟨((k + 1 : Nat) : Int), (), ?_, bst_new (by omega) m hp (Or.inl e)⟩
          rw [q_M_firstRow_6, iI_pow (by omega)]
          refine s_lef (by omega) (s_g rfl (s_I hf (s_pt m (s_eqt e ?_))))
          rw [q_M_firstRow_41, q_M_firstRow_45, iI_add]; rfl
        · have eb : b = (b.toNat : Int) := by omega
          have hd := r_ahead (w := w) hn.2 (s := k + 1) (by omega) (t := b.toNat) (by omega) (zs := ((k + 1 : Nat) : Int)) (zt := b) ⟨rfl, eb⟩
          by_cases m2 : toC n b.toNat < toC n (k + 1)
          · refine ⟨((k + 1 : Nat) : Int), (), ?_, bst_new (by omega) m hp (Or.inr ⟨b.toNat, eb, m2⟩)⟩
            rw [q_M_firstRow_6, iI_pow (by omega)]
            refine s_lef (by omega) (s_g rfl (s_I hf (s_pt m (s_eqf (by omega) (s_I hd (s_pt m2 ?_))))))
            rw [q_M_firstRow_41, q_M_firstRow_45, iI_add]; rfl
          · refine ⟨b, (), ?_, bst_keep hp b.toNat eb m2⟩
            rw [q_M_firstRow_6, iI_pow (by omega)]
            refine s_lef (by omega) (s_g rfl (s_I hf (s_pt m (s_eqf (by omega) (s_I hd (s_pf m2 ?_))))))
            rw [q_M_firstRow_45, iI_add]; rfl
      · refine ⟨b, (), ?_, bst_no hp m⟩
        rw [q_M_firstRow_6, iI_pow (by omega)]
        refine s_lef (by omega) (s_g rfl (s_I hf (s_pf m ?_)))
        rw [q_M_firstRow_45, iI_add]; rfl
    · rw [q_M_firstRow_6, iI_pow (by omega)]
      refine s_let (by omega) ?_
      rw [q_M_firstRow_51]
  obtain ⟨b, k1, k2⟩ := key
  have hxl := fl_lt n a 0 x hx
  have eb := bst_end k2 hxl (by have := fl_gt n a x ha hx; omega) (show toC n (toR n x) ∈ fl n a 0 by rw [toC_toR n x hxl]; exact hx) (fun s _ hq => by
    have hq' : toC n s ∈ fl n a 0 := hq
    rw [hF] at hq'
    rcases List.mem_cons.mp hq' with e | e
    · omega
    · have := hs.1 _ e; omega)
  rw [k1, eb]
theorem r_nextRow (hn : 1 ≤ n ∧ n ≤ 10) {a i x y : Nat} {L F : List Nat} (ha : a < 2 ^ n) (hi : pop n a + 1 = i) (hF : fl n a 0 = L ++ x :: y :: F) {za zn zi zx : Int} (hz : za = (toR n a : Nat) ∧ zn = n ∧ zi = i ∧ zx = (toR n x : Nat)) : xm M_nextRow 0 [.ref 34, .int (iI za), .int (iI zn), .int (iI zi), .int (iI zx)] w = some (.int (iI ((toR n y : Nat) : Int)), w) := by
  obtain ⟨rfl, rfl, rfl, rfl⟩ := hz
  have p10 : (2 : Nat) ^ n ≤ 1024 := Nat.le_trans (Nat.pow_le_pow_right (by decide) hn.2) (by decide)
  have pp := pow_pos2 n
  have ea := toC_toR n a ha
  have hx : x ∈ fl n a 0 := by rw [hF]; exact List.mem_append.mpr (Or.inr List.mem_cons_self)
  have hy : y ∈ fl n a 0 := by rw [hF]; exact List.mem_append.mpr (Or.inr (List.mem_cons_of_mem _ List.mem_cons_self))
  have hxl := fl_lt n a 0 x hx
  have hyl := fl_lt n a 0 y hy
  have ex := toC_toR n x hxl
  have hs := fl_sorted n a 0
  rw [hF, List.pairwise_append] at hs
  obtain ⟨s1, s2, s3⟩ := hs
  rw [List.pairwise_cons, List.pairwise_cons] at s2
  have key : ∃ b : Int, xm M_nextRow 0 [.ref 34, .int (iI (toR n a : Nat)), .int (iI (n : Int)), .int (iI (i : Int)), .int (iI (toR n x : Nat))] w = some (.int (iI b), w) ∧ bst (fun s => toC n s ∈ fl n a 0 ∧ toC n s < x) n (2 ^ n) b := by
    rw [e_M_nextRow, q_M_nextRow_0]
    refine x_loop (fun (k : Nat) (b : Int) (_ : Unit) => xr M_nextRow 0 6 [some (.ref 34), some (.int (iI (toR n a : Nat))), some (.int (iI (n : Int))), some (.int (iI (i : Int))), some (.int (iI (toR n x : Nat))), some (.int (iI b)), some (.int (iI ((k + 1 : Nat) : Int)))] [] (0, 0) w) (2 ^ n - 1)
      (fun k b => bst (fun s => toC n s ∈ fl n a 0 ∧ toC n s < x) n (k + 1) b) (fun o => ∃ b : Int, o = some (.int (iI b), w) ∧ bst (fun s => toC n s ∈ fl n a 0 ∧ toC n s < x) n (2 ^ n) b) (fun k b u hk hp => Or.inr ?_) (fun b u hp => ⟨b, ?_, by rw [show 2 ^ n - 1 + 1 = 2 ^ n by omega] at hp; exact hp⟩) (-1) () (Or.inl ⟨rfl, fun s h1 h2 => by omega⟩)
    · have hf := r_follow (w := w) (n := n) (by omega) (toR_lt n a ha) (s := k + 1) (by omega) (i := i) (by rw [← cB_pop, ea]; exact hi) (za := (toR n a : Nat)) (zs := ((k + 1 : Nat) : Int)) (zi := (i : Int)) ⟨rfl, rfl, rfl⟩
      rw [ea] at hf
      have hd0 := r_ahead (w := w) hn.2 (s := toR n x) (toR_lt n x hxl) (t := k + 1) (by omega) (zs := (toR n x : Nat)) (zt := ((k + 1 : Nat) : Int)) ⟨rfl, rfl⟩
      rw [ex] at hd0
      have hb := bst_lt hp
      by_cases m : toC n (k + 1) ∈ fl n a 0
      · by_cases m1 : toC n (k + 1) < x
        · by_cases e : b = -1
          · refine ⟨((k + 1 : Nat) : Int), (), ?_, bst_new (by omega) ⟨m, m1⟩ hp (Or.inl e)⟩
            rw [q_M_nextRow_6, iI_pow (by omega)]
            refine s_lef (by omega) (s_g rfl (s_I hf (s_pt m (s_I hd0 (s_pt m1 (s_eqt e ?_))))))
            rw [q_M_nextRow_51, q_M_nextRow_55, iI_add]; rfl
          · have eb : b = (b.toNat : Int) := by omega
            have hd := r_ahead (w := w) hn.2 (s := k + 1) (by omega) (t := b.toNat) (by omega) (zs := ((k + 1 : Nat) : Int)) (zt := b) ⟨rfl, eb⟩
            by_cases m2 : toC n b.toNat < toC n (k + 1)
            · refine ⟨((k + 1 : Nat) : Int), (), ?_, bst_new (by omega) ⟨m, m1⟩ hp (Or.inr ⟨b.toNat, eb, m2⟩)⟩
              rw [q_M_nextRow_6, iI_pow (by omega)]
              refine s_lef (by omega) (s_g rfl (s_I hf (s_pt m (s_I hd0 (s_pt m1 (s_eqf (by omega) (s_I hd (s_pt m2 ?_))))))))
              rw [q_M_nextRow_51, q_M_nextRow_55, iI_add]; rfl
            · refine ⟨b, (), ?_, bst_keep hp b.toNat eb m2⟩
              rw [q_M_nextRow_6, iI_pow (by omega)]
              refine s_lef (by omega) (s_g rfl (s_I hf (s_pt m (s_I hd0 (s_pt m1 (s_eqf (by omega) (s_I hd (s_pf m2 ?_))))))))
              rw [q_M_nextRow_55, iI_add]; rfl
        · refine ⟨b, (), ?_, bst_no hp (fun q => m1 q.2)⟩
          rw [q_M_nextRow_6, iI_pow (by omega)]
          refine s_lef (by omega) (s_g rfl (s_I hf (s_pt m (s_I hd0 (s_pf m1 ?_)))))
          rw [q_M_nextRow_55, iI_add]; rfl
      · refine ⟨b, (), ?_, bst_no hp (fun q => m q.1)⟩
        rw [q_M_nextRow_6, iI_pow (by omega)]
        refine s_lef (by omega) (s_g rfl (s_I hf (s_pf m ?_)))
        rw [q_M_nextRow_55, iI_add]; rfl
    · rw [q_M_nextRow_6, iI_pow (by omega)]
      refine s_let (by omega) ?_
      rw [q_M_nextRow_61]
  obtain ⟨b, k1, k2⟩ := key
  have eb := bst_end k2 hyl (by have := fl_gt n a y ha hy; omega) (show toC n (toR n y) ∈ fl n a 0 ∧ toC n (toR n y) < x by rw [toC_toR n y hyl]; exact ⟨hy, s2.1 y List.mem_cons_self⟩) (fun s _ hq => by
    have hq' : toC n s ∈ fl n a 0 := hq.1
    have hq2 : toC n s < x := hq.2
    rw [hF] at hq'
    rcases List.mem_append.mp hq' with e | e
    · have := s3 _ e x List.mem_cons_self; omega
    · rcases List.mem_cons.mp e with e | e
      · omega
      · rcases List.mem_cons.mp e with e | e
        · omega
        · have := s2.2.1 _ e; omega)
  rw [k1, eb]
theorem r_sel (hG : XG w) (hR : RW w n) (hn : 1 ≤ n ∧ n ≤ 10) {a i : Nat} (ha : a < 2 ^ n) (hi : pop n a + 1 = i) {x1 : Int32} {x3 : Int64} {u : Option Value} : ∀ (F L : List Nat) (x m : Nat), fl n a 0 = L ++ x :: F → m < ((x :: F).map (wy n)).sum → (m : Int) < 9223372036854775808 →
    xr M_becomes 0 38 [some (.ref 34), some (.int x1), some (.int (iI (n : Int))), some (.long x3), some (.retAddr 7), some (.long (lI (m : Nat))), some (.retAddr 7), some (.int (iI (toR n a : Nat))), some (.int (iI (i : Int))), some (.int (iI (toR n x : Nat))), u] [] (0, 0) w = xr M_becomes 0 79 [some (.ref 34), some (.int x1), some (.int (iI (n : Int))), some (.long x3), some (.retAddr 7), some (.long (lI ((sel n (x :: F) m).2 : Nat))), some (.retAddr 7), some (.int (iI (toR n a : Nat))), some (.int (iI (i : Int))), some (.int (iI (toR n (sel n (x :: F) m).1 : Nat))), u] [] (0, 0) w := by
  have p10 : (2 : Nat) ^ n ≤ 1024 := Nat.le_trans (Nat.pow_le_pow_right (by decide) hn.2) (by decide)
  have at39 : ∀ x, x ∈ fl n a 0 → xoa w 39 3 (iI (toR n x : Nat)) = true ∧ xLA w 39 (iI (toR n x : Nat)).toNatClampNeg = lI (wy n x : Nat) := fun x hx => by
    have hxl := fl_lt n a 0 x hx
    have h1 := toR_lt n x hxl
    have h2 : 1 ≤ toR n x := by
      by_cases z : toR n x = 0
      · have e := toC_toR n x hxl
        rw [z, toC_z] at e
        have := fl_gt n a x ha hx; omega
      · omega
    refine ⟨xin_t (n := 8192) (by omega), ?_⟩
    rw [iI_natk _ (by omega), hR _ h2 h1, toC_toR n x hxl]
  intro F
  induction F with
  | nil =>
    intro L x m hF hm hb
    have hx : x ∈ fl n a 0 := by rw [hF]; exact List.mem_append.mpr (Or.inr List.mem_cons_self)
    have hm' : m < wy n x + 0 := hm
    have wb := wy_bd hn.1 (by omega) (fl_lt n a 0 x hx)
    have q : m < wy n x := by omega
    obtain ⟨g1, g2⟩ := at39 x hx
    rw [show sel n [x] m = (x, m) by unfold sel; rw [if_pos q], q_M_becomes_38]
    refine s_g rfl (s_o (hG.r (by decide) rfl) (s_g g1 (s_t ?_ rfl)))
    rw [g2]
    exact (lg_cmp_lt _ _).mpr ((lI_lt (by omega) (by omega)).mpr (by omega))
  | cons y F ih =>
    intro L x m hF hm hb
    have hx : x ∈ fl n a 0 := by rw [hF]; exact List.mem_append.mpr (Or.inr List.mem_cons_self)
    have hm' : m < wy n x + ((y :: F).map (wy n)).sum := hm
    have wb := wy_bd hn.1 (by omega) (fl_lt n a 0 x hx)
    obtain ⟨g1, g2⟩ := at39 x hx
    by_cases q : m < wy n x
    · rw [show sel n (x :: y :: F) m = (x, m) by unfold sel; rw [if_pos q], q_M_becomes_38]
      refine s_g rfl (s_o (hG.r (by decide) rfl) (s_g g1 (s_t ?_ rfl)))
      rw [g2]
      exact (lg_cmp_lt _ _).mpr ((lI_lt (by omega) (by omega)).mpr (by omega))
    · have e : sel n (x :: y :: F) m = sel n (y :: F) (m - wy n x) := by rw [sel, if_neg q]
      rw [e, q_M_becomes_38]
      refine s_g rfl (s_o (hG.r (by decide) rfl) (s_g g1 (s_f (fun z => ?_) (s_g rfl (s_o (hG.r (by decide) rfl) (s_g g1 (s_g rfl (s_I (r_nextRow hn ha hi hF ⟨rfl, rfl, rfl, rfl⟩) ?_))))))))
      · rw [g2] at z
        have := (lI_lt (by omega) (by omega)).mp ((lg_cmp_lt _ _).mp z)
        omega
      · rw [g2, lI_sub, show (m : Int) - (wy n x : Nat) = ((m - wy n x : Nat) : Int) by omega]
        exact ih (L ++ [x]) y (m - wy n x) (by rw [hF, List.append_assoc]; rfl) (by omega) (by omega)
theorem r_becomes (h : IM w A) (hI : wI w) (hn : 1 ≤ n ∧ n ≤ 10) {N : Nat} (hN : N < wy n 0) {z zn : Int} (p : Nat) (hz : z = p ∧ p < 8 ∧ zn = n) : ∃ w', xm M_becomes 0 [.ref 34, .int (iI z), .int (iI zn), .long (lI (N : Nat))] w = some (.null, w') ∧ IM w' (setT A p n (buC n N)) ∧ wI w' ∧ xFr mT w w' ∧ lK w w' := by
  obtain ⟨rfl, hp, rfl⟩ := hz
  have p10 : (2 : Nat) ^ n ≤ 1024 := Nat.le_trans (Nat.pow_le_pow_right (by decide) hn.2) (by decide)
  have wb0 := wy_bd hn.1 (by omega) (pow_pos2 n)
  obtain ⟨w1, k1, k2, k3, k4, k5⟩ := r_work h.1 hI (z := (n : Int)) n ⟨rfl, hn.1, by omega⟩
  have h1 : IM w1 A := IM_kK h (k2.G h.1) k3
  rw [e_M_becomes, q_M_becomes_0]
  have nest := x_nest (fun (i : Nat) (s : XW) (u : Option Value × Option Value) => xr M_becomes 0 21 [some (.ref 34), some (.int (iI (p : Int))), some (.int (iI (n : Int))), some (.long (lI (N : Nat))), some (.retAddr 7), some (.long (lI ((rsq n N i).2 : Nat))), some (.retAddr 7), some (.int (iI (toR n (rsq n N i).1 : Nat))), some (.int (iI ((i + 1 : Nat) : Int))), u.1, u.2] [] (0, 0) s)
    (fun (i j : Nat) (s : XW) (_ : Unit) => xr M_becomes 0 82 [some (.ref 34), some (.int (iI (p : Int))), some (.int (iI (n : Int))), some (.long (lI (N : Nat))), some (.retAddr 7), some (.long (lI ((rsq n N (i + 1)).2 : Nat))), some (.retAddr 7), some (.int (iI (toR n (rsq n N i).1 : Nat))), some (.int (iI ((i + 1 : Nat) : Int))), some (.int (iI (toR n (rsq n N (i + 1)).1 : Nat))), some (.int (iI j))] [] (0, 0) s)
    n (fun _ => n) (fun i j s => (mFr w1 s ∧ lK w1 s) ∧ rOut w1 s p ∧ xIA s 35 p = iI n ∧ ∀ a b, b < n → (a < i ∨ a = i ∧ b < j) → xIA s 36 ((p * 10 + a) * 10 + b) = iI (dA (buC n N) a b)) (fun o => ∃ w', o = some (.null, w') ∧ IM w' (setT A p n (buC n N)) ∧ wI w' ∧ xFr mT w w' ∧ lK w w')
    (fun i s u hi hP => ⟨(), ?_⟩) (fun i j s v hi hj hP => Or.inr ⟨xpI s 36 ((p * 10 + i) * 10 + j) (iI (dA (buC n N) i j)), (), ?_, ⟨hP.1.1.tr (mFr_I (by decide)), hP.1.2.tr (lK_I (by decide))⟩, hP.2.1.tr (rOut_a (by omega) (by omega)), ?_, fun a b hb hab => ?_⟩) (fun i s v hi hP => ⟨(some (.int (iI (toR n (rsq n N (i + 1)).1 : Nat))), some (.int (iI (n : Int)))), ?_, hP.1, hP.2.1, hP.2.2.1, fun a b hb hab => hP.2.2.2 a b hb (by omega)⟩) (fun s u hP => ⟨s, ?_, ?_, ?_, k2.tr hP.1.1.1, k3.2.tr hP.1.2⟩) (xpI w1 35 p (iI (n : Int))) (none, none) ⟨⟨mFr_I (by decide), lK_I (by decide)⟩, rOut_s, by rw [a_pI, if_pos rfl, if_pos rfl], fun a b hb hab => by omega⟩
  · obtain ⟨w', j1, j2⟩ := nest
    refine ⟨w', s_g rfl (s_V k1 (s_g rfl (s_o (h1.1.r (by decide) rfl) (s_g (xin_t (n := 8) (by omega)) ?_)))), j2⟩
    have e0 : toR n 0 = 0 := by
      have := toR_toC n 0 (pow_pos2 n)
      rw [toC_z] at this; exact this
    have j1' : xr M_becomes 0 21 [some (.ref 34), some (.int (iI (p : Int))), some (.int (iI (n : Int))), some (.long (lI (N : Nat))), some (.retAddr 7), some (.long (lI (N : Nat))), some (.retAddr 7), some (.int (iI (toR n 0 : Nat))), some (.int (iI ((0 + 1 : Nat) : Int))), none, none] [] (0, 0) (xpI w1 35 p (iI (n : Int))) = some (.null, w') := j1
    rw [e0] at j1'
    rw [iI_natk p (by omega)]
    exact j1'
  · obtain ⟨r1, r2, r3⟩ := rsq_ok hn.1 hN i (by omega)
    have hne : ¬ (rsq n N i).1 = 2 ^ n - 1 := fun q => by have := (pop_full n _ r1).mpr q; omega
    have r3' := r3
    rw [wy_eq r1, if_neg hne] at r3'
    have wb := wy_bd hn.1 (by omega) r1
    have hGs := hP.1.1.1.G h1.1
    have hRs : RW s n := fun s' a1 a2 => by rw [hP.1.1.2.2]; exact k5 s' a1 a2
    show xr M_becomes 0 21 _ [] (0, 0) s = xr M_becomes 0 82 [_, _, _, _, _, some (.long (lI ((sel n (fl n (rsq n N i).1 0) (rsq n N i).2).2 : Nat))), _, _, _, some (.int (iI (toR n (sel n (fl n (rsq n N i).1 0) (rsq n N i).2).1 : Nat))), _] [] (0, 0) s
    cases hF : fl n (rsq n N i).1 0 with
    | nil => rw [hF] at r3'; exact absurd r3' (Nat.not_lt_zero _)
    | cons x F =>
      rw [hF] at r3'
      rw [q_M_becomes_21]
      refine s_ltf (by omega) (s_g rfl (s_I (r_firstRow hn r1 (i := i + 1) (by omega) hF ⟨rfl, rfl, rfl⟩) ?_))
      rw [r_sel hGs hRs hn r1 (i := i + 1) (by omega) F [] x (rsq n N i).2 hF r3' (by omega), q_M_becomes_79]
      rfl
  · obtain ⟨r1, r2, r3⟩ := rsq_ok hn.1 hN i (by omega)
    obtain ⟨t1, t2, t3⟩ := rsq_ok hn.1 hN (i + 1) (by omega)
    have b1 := toR_lt n _ r1
    have b2 := toR_lt n _ t1
    have d1 := bt_toC (n := n) (toR n (rsq n N i).1) hj
    have d2 := bt_toC (n := n) (toR n (rsq n N (i + 1)).1) hj
    rw [toC_toR n _ r1] at d1
    rw [toC_toR n _ t1] at d2
    have ed : dA (buC n N) i j = bt n (rsq n N (i + 1)).1 j - bt n (rsq n N i).1 j := by
      show sumF (bt n (rsq n N (i + 1)).1) j + bt n (rsq n N (i + 1)).1 j - (sumF (bt n (rsq n N i).1) j + bt n (rsq n N i).1 j) - (sumF (bt n (rsq n N (i + 1)).1) j - sumF (bt n (rsq n N i).1) j) = _
      omega
    show xr M_becomes 0 82 _ [] (0, 0) s = _
    rw [q_M_becomes_82, iI_bit (by omega) (by omega), iI_bit (by omega) (by omega), iI_sub, iI_sub, iI_add, ← d1, ← d2, ← ed]
    refine s_lef (by omega) (s_g rfl (s_V (r_aw (hP.1.1.1.G h1.1) p i j (by omega) _) rfl))
  · rw [a_pI, if_neg (by decide)]; exact hP.2.2.1
  · rw [a_pI, if_pos rfl]
    by_cases e : a = i ∧ b = j
    · rw [if_pos (by rw [e.1, e.2]), e.1, e.2]
    · rw [if_neg (by omega)]
      exact hP.2.2.2 a b hb (by omega)
  · show xr M_becomes 0 82 _ [] (0, 0) s = _
    rw [q_M_becomes_82]
    refine s_let (by omega) ?_
    rw [q_M_becomes_120, iI_add]; rfl
  · show xr M_becomes 0 21 _ [] (0, 0) s = _
    rw [q_M_becomes_21]
    refine s_ltt (by omega) ?_
    rw [q_M_becomes_130]
  · exact IM_setT h1 hp (hP.1.1.1.G h1.1) ⟨hn, asm_bu hn.1 hN, hP.2.2.1, fun a b ha hb => hP.2.2.2 a b hb (by omega)⟩ hP.2.1.1 hP.2.1.2.1 hP.2.1.2.2.1 hP.2.1.2.2.2.1 hP.2.1.2.2.2.2
  · exact wI_m (Or.inr ⟨n, by omega, k4, k5⟩) hP.1.1
theorem r_of (h : IM w A) (hI : wI w) {z zn l : Int} (hz : i32 z) (hn : i32 zn) (hl : i64 l) : ∃ w', xm M_of 0 [.ref 34, .int (iI z), .int (iI zn), .long (lI l)] w = some (.int (bI (o_of A z zn l).1), w') ∧ IM w' (o_of A z zn l).2 ∧ wI w' ∧ xFr mT w w' := by
  have h0 := IM_F (k := 0) (v := iI 0) h (by decide)
  have f0 : mFr w (xpF w 34 0 (iI 0)) := mFr_F (by decide)
  rw [e_M_of, q_M_of_0]
  have no : ∀ (t : XW) (o : Option XR), ¬ ((0 ≤ z ∧ z < 8) ∧ (1 ≤ zn ∧ zn ≤ 10) ∧ 0 ≤ l ∧ l < xsl zn.toNat) → IM t A → wI t → xFr mT w t → o = xr M_of 0 35 [some (.ref 34), some (.int (iI z)), some (.int (iI zn)), some (.long (lI l)), some (.retAddr 7)] [] (0, 0) t → ∃ w', o = some (.int (bI (o_of A z zn l).1), w') ∧ IM w' (o_of A z zn l).2 ∧ wI w' ∧ xFr mT w w' := fun t o q a1 a2 a3 ho => by
    rw [show o_of A z zn l = (false, A) from if_neg q]
    exact ⟨t, by rw [ho, q_M_of_35, xbz_0], a1, a2, a3⟩
  have wI0 := wI_m hI f0
  by_cases h1 : 0 ≤ z ∧ z < 8
  · by_cases h2 : zn < 1
    · exact no _ _ (fun q => by omega) h0 wI0 f0.1 (s_g rfl (s_I (r_knows hz) (s_pt h1 (s_ltt (by omega) rfl))))
    · by_cases h3 : 10 < zn
      · exact no _ _ (fun q => by omega) h0 wI0 f0.1 (s_g rfl (s_I (r_knows hz) (s_pt h1 (s_ltf (by omega) (s_ltt (by omega) rfl)))))
      · have xb := xsl_bd zn.toNat (by omega) (by omega)
        by_cases h4 : l < 0
        · exact no _ _ (fun q => by omega) h0 wI0 f0.1 (s_g rfl (s_I (r_knows hz) (s_pt h1 (s_ltf (by omega) (s_ltf (by omega) (s_t ((lg_cmp_lt _ _).mpr ((lI_lt hl (by omega)).mpr h4)) rfl))))))
        · obtain ⟨w1, k1, k2, k3, k4, k5⟩ := r_all h0.1 wI0 (z := zn) zn.toNat (by omega)
          have h1' : IM w1 A := IM_kK h0 (k2.G h0.1) k3
          have wI1 : wI w1 := Or.inr ⟨zn.toNat, by omega, k4, k5⟩
          have n4 : ¬ lg_cmp (lI l) (lI 0) < 0 := fun q => h4 ((lI_lt hl (by omega)).mp ((lg_cmp_lt _ _).mp q))
          by_cases h5 : l < xsl zn.toNat
          · have wz := wy_zero (n := zn.toNat) (by omega) (by omega)
            obtain ⟨w', j1, j2, j3, j4, j5⟩ := r_becomes h1' wI1 (n := zn.toNat) (by omega) (N := l.toNat) (by omega) (z := z) (zn := zn) z.toNat (by omega)
            rw [show ((l.toNat : Nat) : Int) = l by omega] at j1
            rw [show o_of A z zn l = (true, _) from if_pos ⟨h1, by omega, by omega, h5⟩]
            refine ⟨w', s_g rfl (s_I (r_knows hz) (s_pt h1 (s_ltf (by omega) (s_ltf (by omega) (s_f n4 (s_g rfl (s_J k1 (s_t ((lg_cmp_lt _ _).mpr ((lI_lt hl (by omega)).mpr h5)) ?_)))))))), j2, j3, (f0.1.tr k2).tr j4⟩
            rw [q_M_of_37]
            exact s_g rfl (s_V j1 (xbz_1 _))
          · exact no _ _ (fun q => by omega) h1' wI1 (f0.1.tr k2) (s_g rfl (s_I (r_knows hz) (s_pt h1 (s_ltf (by omega) (s_ltf (by omega) (s_f n4 (s_g rfl (s_J k1 (s_f (fun q => h5 ((lI_lt hl (by omega)).mp ((lg_cmp_lt _ _).mp q))) rfl)))))))))
  · exact no _ _ (fun q => h1 q.1) h0 wI0 f0.1 (s_g rfl (s_I (r_knows hz) (s_pf h1 rfl)))
theorem mB_sh : ∀ n, n < 11 → 1 ≤ n → ∀ k, k < mB n → ¬ lI (xsl n - 1) >>> ((iI (k : Int)).toInt64 &&& 63) = lI 0 := by decide +kernel
theorem mB_end : ∀ n, n < 11 → 1 ≤ n → lI (xsl n - 1) >>> ((iI (mB n : Int)).toInt64 &&& 63) = lI 0 := by decide +kernel
theorem mB_mk : ∀ n, n < 11 → 1 ≤ n → (lI 1 <<< ((iI (mB n : Int)).toInt64 &&& 63)) - lI 1 = mk n := by decide +kernel
theorem r_draw (h : IM w A) (hI : wI w) {z zn : Int} (l : Int64) (hz : i32 z) (hn : i32 zn) : ∃ w', xm M_draw 0 [.ref 34, .int (iI z), .int (iI zn), .long l] w = some (.int (iI (o_draw A z zn l).1), w') ∧ IM w' (o_draw A z zn l).2 ∧ wI w' ∧ xFr mT w w' := by
  have h0 := IM_F (k := 0) (v := iI 0) h (by decide)
  have f0 : mFr w (xpF w 34 0 (iI 0)) := mFr_F (by decide)
  have wI0 := wI_m hI f0
  rw [e_M_draw, q_M_draw_0]
  have no : ∀ (o : Option XR), ¬ ((0 ≤ z ∧ z < 8) ∧ (1 ≤ zn ∧ zn ≤ 10)) → o = xr M_draw 0 19 [some (.ref 34), some (.int (iI z)), some (.int (iI zn)), some (.long l), some (.retAddr 7), none, none, none, none, none, none, none, none] [] (0, 0) (xpF w 34 0 (iI 0)) → ∃ w', o = some (.int (iI (o_draw A z zn l).1), w') ∧ IM w' (o_draw A z zn l).2 ∧ wI w' ∧ xFr mT w w' := fun o q ho => by
    rw [show o_draw A z zn l = (-1, A) from if_neg (fun y => q ⟨y.1, y.2.1⟩)]
    exact ⟨_, by rw [ho, q_M_draw_19], h0, wI0, f0.1⟩
  by_cases h1 : 0 ≤ z ∧ z < 8
  · by_cases h2 : zn < 1
    · exact no _ (fun q => by omega) (s_g rfl (s_I (r_knows hz) (s_pt h1 (s_ltt (by omega) rfl))))
    · by_cases h3 : zn ≤ 10
      · have xb := xsl_bd zn.toNat (by omega) (by omega)
        have wz := wy_zero (n := zn.toNat) (by omega) (by omega)
        obtain ⟨w1, k1, k2, k3, k4, k5⟩ := r_all h0.1 wI0 (z := zn) zn.toNat (by omega)
        have h1' : IM w1 A := IM_kK h0 (k2.G h0.1) k3
        have wI1 : wI w1 := Or.inr ⟨zn.toNat, by omega, k4, k5⟩
        have mb := mB_le zn.toNat (by omega)
        have esh := mB_sh zn.toNat (by omega) (by omega)
        have een := mB_end zn.toNat (by omega) (by omega)
        have emk := mB_mk zn.toNat (by omega) (by omega)
        have up := x_up (fun k : Nat => xr M_draw 0 33 [some (.ref 34), some (.int (iI z)), some (.int (iI zn)), some (.long l), some (.retAddr 7), some (.long (lI (xsl zn.toNat - 1))), some (.retAddr 7), some (.int (iI (k : Int))), none, none, none, none, none] [] (0, 0) w1) (N := mB zn.toNat) (fun k hk => by
          show xr M_draw 0 33 _ [] (0, 0) w1 = _
          rw [q_M_draw_33]
          refine s_lef (by omega) (s_f (fun q => esh k hk ((lg_cmp_eq _ _).mp q)) ?_)
          rw [iI_add]; rfl) 0 (Nat.zero_le _)
        have up' : xr M_draw 0 33 [some (.ref 34), some (.int (iI z)), some (.int (iI zn)), some (.long l), some (.retAddr 7), some (.long (lI (xsl zn.toNat - 1))), some (.retAddr 7), some (.int (iI ((0 : Nat) : Int))), none, none, none, none, none] [] (0, 0) w1 = xr M_draw 0 62 [some (.ref 34), some (.int (iI z)), some (.int (iI zn)), some (.long l), some (.retAddr 7), some (.long (lI (xsl zn.toNat - 1))), some (.retAddr 7), some (.int (iI (mB zn.toNat : Int))), some (.long l), some (.retAddr 7), some (.int (iI 1)), none, none] [] (0, 0) w1 := by
          refine Eq.trans up ?_
          show xr M_draw 0 33 _ [] (0, 0) w1 = _
          rw [q_M_draw_33]
          refine s_lef (by omega) (s_t ((lg_cmp_eq _ _).mpr een) ?_)
          rw [q_M_draw_56]
        suffices hs : ∃ w', xr M_draw 0 62 [some (.ref 34), some (.int (iI z)), some (.int (iI zn)), some (.long l), some (.retAddr 7), some (.long (lI (xsl zn.toNat - 1))), some (.retAddr 7), some (.int (iI (mB zn.toNat : Int))), some (.long l), some (.retAddr 7), some (.int (iI 1)), none, none] [] (0, 0) w1 = some (.int (iI (o_draw A z zn l).1), w') ∧ IM w' (o_draw A z zn l).2 ∧ wI w' ∧ xFr mT w1 w' by
          obtain ⟨w', j1, j2, j3, j4⟩ := hs
          refine ⟨w', s_g rfl (s_I (r_knows hz) (s_pt h1 (s_ltf (by omega) (s_let (by omega) ?_)))), j2, j3, (f0.1.tr k2).tr j4⟩
          rw [q_M_draw_21]
          refine s_g rfl (s_J k1 ?_)
          rw [lI_sub]
          exact up'.trans j1
        refine x_loop (fun (k : Nat) (_ : Unit) (u : Option Value × Option Value) => xr M_draw 0 62 [some (.ref 34), some (.int (iI z)), some (.int (iI zn)), some (.long l), some (.retAddr 7), some (.long (lI (xsl zn.toNat - 1))), some (.retAddr 7), some (.int (iI (mB zn.toNat : Int))), some (.long (dS l k)), some (.retAddr 7), some (.int (iI ((k : Int) + 1))), u.1, u.2] [] (0, 0) w1) 1000
          (fun k _ => ∀ j, j < k → hitD zn.toNat l j = false) (fun o => ∃ w', o = some (.int (iI (o_draw A z zn l).1), w') ∧ IM w' (o_draw A z zn l).2 ∧ wI w' ∧ xFr mT w1 w') (fun k s u hk hp => ?_) (fun s u hp => ?_) () (none, none) (fun j hj => absurd hj (Nat.not_lt_zero _))
        · show (∃ w', xr M_draw 0 62 _ [] (0, 0) w1 = _ ∧ _) ∨ _
          rw [q_M_draw_62, dS_s, emk, tk_d]
          cases hh : hitD zn.toNat l k with
          | true =>
            have e := firstN_at (p := hitD zn.toNat l) hk hh hp
            have hlt := of_decide_eq_true hh
            have nn := tk_nn (n := zn.toNat) (by omega) (dS l (k + 1))
            rw [Int64.lt_iff_toInt_lt, lI_val (by omega)] at hlt
            refine Or.inl ?_
            rw [show o_draw A z zn l = _ from if_pos ⟨h1, ⟨by omega, h3⟩, by omega⟩, e]
            obtain ⟨w', j1, j2, j3, j4, j5⟩ := r_becomes h1' wI1 (n := zn.toNat) (by omega) (N := (tk (mk zn.toNat) (dS l (k + 1))).toInt.toNat) (by omega) (z := z) (zn := zn) z.toNat (by omega)
            have el : lI (((tk (mk zn.toNat) (dS l (k + 1))).toInt.toNat : Nat) : Int) = tk (mk zn.toNat) (dS l (k + 1)) := by
              rw [show (((tk (mk zn.toNat) (dS l (k + 1))).toInt.toNat : Nat) : Int) = (tk (mk zn.toNat) (dS l (k + 1))).toInt by omega]
              exact Int64.ofInt_toInt _
            rw [el] at j1
            refine ⟨w', s_ltf (by omega) (s_t ((lg_cmp_le _ _).mpr ?_) ?_), j2, j3, j4⟩
            · rw [Int64.le_iff_toInt_le, lI_val (by omega)]; omega
            · rw [q_M_draw_107]
              exact s_g rfl (s_V j1 rfl)
          | false =>
            have hlt := of_decide_eq_false hh
            rw [Int64.lt_iff_toInt_lt, lI_val (by omega)] at hlt
            refine Or.inr ⟨(), (some (.long (tk (mk zn.toNat) (dS l (k + 1)))), some (.retAddr 7)), s_ltf (by omega) (s_f (fun q => ?_) ?_), fun j hj => ?_⟩
            · have := (lg_cmp_le _ _).mp q
              rw [Int64.le_iff_toInt_le, lI_val (by omega)] at this
              omega
            · rw [q_M_draw_118, iI_add]; rfl
            · rcases Nat.lt_or_ge j k with q | q
              · exact hp j q
              · rw [show j = k by omega]; exact hh
        · have e := firstN_all (p := hitD zn.toNat l) hp
          show ∃ w', xr M_draw 0 62 _ [] (0, 0) w1 = _ ∧ _
          rw [show o_draw A z zn l = (-1, A) from if_neg (fun q => by omega)]
          refine ⟨w1, ?_, h1', wI1, xFr.rf _ _⟩
          rw [q_M_draw_62]
          refine s_ltt (by omega) ?_
          rw [q_M_draw_124]
      · exact no _ (fun q => by omega) (s_g rfl (s_I (r_knows hz) (s_pt h1 (s_ltf (by omega) (s_lef (by omega) rfl)))))
  · exact no _ (fun q => h1 q.1) (s_g rfl (s_I (r_knows hz) (s_pf h1 rfl)))
end XNUM17
