theorem xofN (n : Nat) : Int32.ofNat n = iI (n : Int) := by
  unfold iI
  exact (Int32.ofInt_eq_ofNat).symm

section XINS2
variable {p : Program} {l : Launch} {e : Env} {R : Room} {s : State} {m : MethodId} {args : Array Value} {below : List Frame} {meth : Method} {c : Code} {Q : State → Prop} {D : va_G} {sad ad0 : Nat → Nat} {cA0 : Nat → ClassId} {n0 : Nat} {sc : Nat × (Nat → Int32)} {A : Nat → Prop} {id lv mc ms : Nat} {x : XR}
variable {J : Nat → XL → List Value → XB → XW → Option XR} {C : Nat → Nat → List Value → XW → Option XR} {k : XK} {pc : Nat}

theorem xi_ldc2 {idx : Nat} (cx : xCx p R s m args meth c D sad sc A id lv mc ms) (h1 : xci1 id pc (.ldc2_w idx) = true) (h2 : xci2 id pc (.ldc2_w idx) = true) (Hk : xGo (fun H locs cells slots g => W p l e R s m args below meth c H locs cells slots Q g) (xI D ad0 cA0 n0 sc A s) m sad (xmaxL id) mc ms x (pc + xilen (.ldc2_w idx)) k) : xGo (fun H locs cells slots g => W p l e R s m args below meth c H locs cells slots Q g) (xI D ad0 cA0 n0 sc A s) m sad (xmaxL id) mc ms x pc (xins J C (xown id) id lv pc (.ldc2_w idx) k) := by
  intro ad cA w H locs cells slots ls L st b hI hL hs hc hb h
  obtain ⟨hx, hcc, hr, hml, hown, hts, hlk, hK, hin, hst, hA, hRf, hRl, hRc, hRs, hN⟩ := cx
  have hd := xdec h1 rfl
  dsimp only [xins] at h
  split at h
  · rename_i z hz
    exact lv_ldc2 hx hcc hown (hts _ (xldc_ok hz)) hd (Hk ad cA w H locs cells slots ls L (.long (lI z) :: st) b hI hL (xs_cons trivial hs) hc hb h)
  · cases h

theorem xi_getfield {idx : Nat} (cx : xCx p R s m args meth c D sad sc A id lv mc ms) (h1 : xci1 id pc (.getfield idx) = true) (h2 : xci2 id pc (.getfield idx) = true) (Hk : xGo (fun H locs cells slots g => W p l e R s m args below meth c H locs cells slots Q g) (xI D ad0 cA0 n0 sc A s) m sad (xmaxL id) mc ms x (pc + xilen (.getfield idx)) k) : xGo (fun H locs cells slots g => W p l e R s m args below meth c H locs cells slots Q g) (xI D ad0 cA0 n0 sc A s) m sad (xmaxL id) mc ms x pc (xins J C (xown id) id lv pc (.getfield idx) k) := by
  intro ad cA w H locs cells slots ls L st b hI hL hs hc hb h
  obtain ⟨hx, hcc, hr, hml, hown, hts, hlk, hK, hin, hst, hA, hRf, hRl, hRc, hRs, hN⟩ := cx
  have hd := xdec h1 rfl
  dsimp only [xins] at h
  split at h
  · rename_i ci f v st' hf
    obtain ⟨a, rfl, h⟩ := xde_some h
    obtain ⟨hg, h⟩ := xg_some h
    obtain ⟨hc8, hfN, hlink⟩ := xfld_ok hf
    obtain ⟨hcls, hak⟩ := xak_cls hg hc8
    have hlt : a < xn w := xs_hd hs
    have he : (xws ad cA w)[a]? = some (ad a, .inr (ci, xfs ad w a ci)) := by rw [xws_at hlt, xcell_obj hcls hak]
    have hat := xfs_at (ad := ad) (w := w) (a := a) hfN
    split at h
    · rename_i hi
      have hv : (xfs ad w a ci)[f]? = some (.int (xIF w a f)) := by rw [hat]; unfold xfv; rw [hi]
      rcases hlink with hl | ⟨hl, -⟩
      · exact va_get (D := D) hx hcc hts (xcl_in0 ci hc8) hown hK hI.1 a he (xcl_at hc8) f hfN (hts _ hl) (fun _ h9 => h9) hv hd (Hk ad cA w H locs cells slots ls L (.int (xIF w a f) :: st') b hI hL (xs_cons trivial (xs_tl hs)) hc hb h)
      · exact va_getN (D := D) hx hcc hts (xcl_in0 ci hc8) hown hK hI.1 a he (xcl_at hc8) f hfN (va_Nw.use rfl (hN.at hl)) (fun _ h9 => h9) hv hd (Hk ad cA w H locs cells slots ls L (.int (xIF w a f) :: st') b hI hL (xs_cons trivial (xs_tl hs)) hc hb h)
    · rename_i hi
      obtain ⟨q, hq, h⟩ := xo_some h
      have hv : (xfs ad w a ci)[f]? = some (.ref (ad q)) := by rw [hat]; unfold xfv; rw [hi, hq]; rfl
      have hqn : q < xn w := hI.2.2.2.1.1 _ _ _ hq
      rcases hlink with hl | ⟨hl, -⟩
      · exact va_get (D := D) hx hcc hts (xcl_in0 ci hc8) hown hK hI.1 a he (xcl_at hc8) f hfN (hts _ hl) (fun _ h9 => h9) hv hd (Hk ad cA w H locs cells slots ls L (.ref q :: st') b hI hL (xs_cons hqn (xs_tl hs)) hc hb h)
      · exact va_getN (D := D) hx hcc hts (xcl_in0 ci hc8) hown hK hI.1 a he (xcl_at hc8) f hfN (va_Nw.use rfl (hN.at hl)) (fun _ h9 => h9) hv hd (Hk ad cA w H locs cells slots ls L (.ref q :: st') b hI hL (xs_cons hqn (xs_tl hs)) hc hb h)
  · cases h

theorem xi_putfield {idx : Nat} (cx : xCx p R s m args meth c D sad sc A id lv mc ms) (h1 : xci1 id pc (.putfield idx) = true) (h2 : xci2 id pc (.putfield idx) = true) (Hk : xGo (fun H locs cells slots g => W p l e R s m args below meth c H locs cells slots Q g) (xI D ad0 cA0 n0 sc A s) m sad (xmaxL id) mc ms x (pc + xilen (.putfield idx)) k) : xGo (fun H locs cells slots g => W p l e R s m args below meth c H locs cells slots Q g) (xI D ad0 cA0 n0 sc A s) m sad (xmaxL id) mc ms x pc (xins J C (xown id) id lv pc (.putfield idx) k) := by
  intro ad cA w H locs cells slots ls L st b hI hL hs hc hb h
  obtain ⟨hx, hcc, hr, hml, hown, hts, hlk, hK, hin, hst, hA, hRf, hRl, hRc, hRs, hN⟩ := cx
  have hd := xdec h1 rfl
  dsimp only [xins] at h
  split at h
  · rename_i ci f u v st' hf
    obtain ⟨a, rfl, h⟩ := xde_some h
    obtain ⟨hg, h⟩ := xg_some h
    obtain ⟨hc8, hfN, hlink⟩ := xfld_ok hf
    obtain ⟨hcls, hak⟩ := xak_cls hg hc8
    have hlt : a < xn w := xs_hd (xs_tl hs)
    have he : (xws ad cA w)[a]? = some (ad a, .inr (ci, xfs ad w a ci)) := by rw [xws_at hlt, xcell_obj hcls hak]
    have hty := xcl_ty0 ci hc8 f hfN
    have hfin : (xT ci f).2.2.2 = false ∨ ((xT ci f).2.2.2 = true ∧ meth.name = "<init>" ∧ (xT ci f).1 = xcn (xown id)) := by
      simp only [xci2, hf, Bool.or_eq_true, Bool.and_eq_true, Bool.not_eq_true', decide_eq_true_eq, beq_iff_eq] at h2
      rcases h2 with h2 | h2
      · exact Or.inl h2
      · cases hq : (xT ci f).2.2.2 with
        | false => exact Or.inl rfl
        | true => exact Or.inr ⟨rfl, hin h2.1, h2.2⟩
    cases hi : xfint ci f with
    | true =>
     rw [hi] at h
     cases u with
     | int z =>
      have hE : xcell ad cA (xpF w a f z) a = .inr (ci, (xfs ad w a ci).set f (.int z)) := by rw [xcell_obj hcls hak, xfs_pF hi]
      have hn : narrow (xty ci f) (.int z) = .int z := by rw [xft_int hc8 hfN hi]; rfl
      have hft : fits (xty ci f) (.int z) = true := by rw [xft_int hc8 hfN hi]; rfl
      have kk : ∀ (H1 : Heap) (locs1 : List Loc), va_P D vwCl ((xws ad cA w).set a (ad a, .inr (ci, (xfs ad w a ci).set f (.int z)))) H1 → va_D A ((xws ad cA w).set a (ad a, .inr (ci, (xfs ad w a ci).set f (.int z)))) → va_S A s.heap H1 locs1 → W p l e R s m args below meth c H1 locs1 cells slots Q (F0 m (pc + 3) ls (st'.map (xv ad sad))) := fun H1 locs1 hP1 hD1 hS1 =>
        Hk ad cA (xpF w a f z) H1 locs1 cells slots ls L st' b (hI.upd (a := a) rfl rfl (fun q hq => xcell_pF hq) hE hI.2.2.2.1 hP1 hD1 hS1) (hL.grow (Nat.le_refl _) (fun _ _ => rfl)) (xs_grow (Nat.le_refl _) (xs_tl (xs_tl hs))) hc hb h
      rcases hfin with hf0 | ⟨hf1, hmn, hdc⟩
      · rcases hlink with hl | ⟨hl, -⟩
        · exact va_put (D := D) hx hcc hts (xcl_in0 ci hc8) (xty ci) (xcl_ty0 ci hc8) (xcl_nm0 ci hc8) hown hK hI.1 hI.2.1 hI.2.2.2.2.1 a he (xcl_at hc8) f hfN (hts _ hl) (fun _ h9 => h9) hf0 hty hn hft (by rw [xfs_len]; exact hfN) hd kk
        · exact va_putN (D := D) hx hcc hts (xcl_in0 ci hc8) (xty ci) (xcl_ty0 ci hc8) (xcl_nm0 ci hc8) hown hK hI.1 hI.2.1 hI.2.2.2.2.1 a he (xcl_at hc8) f hfN (va_Nw.use rfl (hN.at hl)) (fun _ h9 => h9) hf0 hty hn hft (by rw [xfs_len]; exact hfN) hd kk
      · rcases hlink with hl | ⟨-, hl⟩
        · exact va_putF (D := D) hx hcc hts (xcl_in0 ci hc8) (xty ci) (xcl_ty0 ci hc8) (xcl_nm0 ci hc8) hown hK hI.1 hI.2.1 hI.2.2.2.2.1 a he (xcl_at hc8) f hfN (hts _ hl) (fun _ h9 => h9) hf1 hmn hdc hty hn hft (by rw [xfs_len]; exact hfN) hd kk
        · exact absurd hdc hl
     | _ => cases h
    | false =>
     rw [hi] at h
     cases u with
     | ref q =>
      have hqn : q < xn w := xs_hd hs
      have hE : xcell ad cA (xpR w a f (some q)) a = .inr (ci, (xfs ad w a ci).set f (.ref (ad q))) := by rw [xcell_obj hcls hak, xfs_pR hi]
      have hn := (xft_ref hc8 hfN hi (ad q)).1
      have hft := (xft_ref hc8 hfN hi (ad q)).2.1
      have kk : ∀ (H1 : Heap) (locs1 : List Loc), va_P D vwCl ((xws ad cA w).set a (ad a, .inr (ci, (xfs ad w a ci).set f (.ref (ad q))))) H1 → va_D A ((xws ad cA w).set a (ad a, .inr (ci, (xfs ad w a ci).set f (.ref (ad q))))) → va_S A s.heap H1 locs1 → W p l e R s m args below meth c H1 locs1 cells slots Q (F0 m (pc + 3) ls (st'.map (xv ad sad))) := fun H1 locs1 hP1 hD1 hS1 =>
        Hk ad cA (xpR w a f (some q)) H1 locs1 cells slots ls L st' b (hI.upd (a := a) rfl rfl (fun q hq => xcell_pR hq) hE (xVR_pR hI.2.2.2.1 hqn) hP1 hD1 hS1) (hL.grow (Nat.le_refl _) (fun _ _ => rfl)) (xs_grow (Nat.le_refl _) (xs_tl (xs_tl hs))) hc hb h
      rcases hfin with hf0 | ⟨hf1, hmn, hdc⟩
      · rcases hlink with hl | ⟨hl, -⟩
        · exact va_put (D := D) hx hcc hts (xcl_in0 ci hc8) (xty ci) (xcl_ty0 ci hc8) (xcl_nm0 ci hc8) hown hK hI.1 hI.2.1 hI.2.2.2.2.1 a he (xcl_at hc8) f hfN (hts _ hl) (fun _ h9 => h9) hf0 hty hn hft (by rw [xfs_len]; exact hfN) hd kk
        · exact va_putN (D := D) hx hcc hts (xcl_in0 ci hc8) (xty ci) (xcl_ty0 ci hc8) (xcl_nm0 ci hc8) hown hK hI.1 hI.2.1 hI.2.2.2.2.1 a he (xcl_at hc8) f hfN (va_Nw.use rfl (hN.at hl)) (fun _ h9 => h9) hf0 hty hn hft (by rw [xfs_len]; exact hfN) hd kk
      · rcases hlink with hl | ⟨-, hl⟩
        · exact va_putF (D := D) hx hcc hts (xcl_in0 ci hc8) (xty ci) (xcl_ty0 ci hc8) (xcl_nm0 ci hc8) hown hK hI.1 hI.2.1 hI.2.2.2.2.1 a he (xcl_at hc8) f hfN (hts _ hl) (fun _ h9 => h9) hf1 hmn hdc hty hn hft (by rw [xfs_len]; exact hfN) hd kk
        · exact absurd hdc hl
     | _ => cases h
  · cases h

theorem xi_getstatic {idx : Nat} (cx : xCx p R s m args meth c D sad sc A id lv mc ms) (h1 : xci1 id pc (.getstatic idx) = true) (h2 : xci2 id pc (.getstatic idx) = true) (Hk : xGo (fun H locs cells slots g => W p l e R s m args below meth c H locs cells slots Q g) (xI D ad0 cA0 n0 sc A s) m sad (xmaxL id) mc ms x (pc + xilen (.getstatic idx)) k) : xGo (fun H locs cells slots g => W p l e R s m args below meth c H locs cells slots Q g) (xI D ad0 cA0 n0 sc A s) m sad (xmaxL id) mc ms x pc (xins J C (xown id) id lv pc (.getstatic idx) k) := by
  intro ad cA w H locs cells slots ls L st b hI hL hs hc hb h
  obtain ⟨hx, hcc, hr, hml, hown, hts, hlk, hK, hin, hst, hA, hRf, hRl, hRc, hRs, hN⟩ := cx
  have hd := xdec h1 rfl
  dsimp only [xins] at h
  split at h
  · rename_i t ht
    obtain ⟨h4, hl⟩ := xsta_ok ht
    exact va_gets hx hcc (hst.1 t h4) hI.2.2.2.2.1 hown (hts _ hl) (fun _ h9 => h9) hd (Hk ad cA w H locs cells slots ls L (.retAddr t :: st) b hI hL (xs_cons (show t < 5 by omega) hs) hc hb h)
  · cases h

theorem xi_iaload (cx : xCx p R s m args meth c D sad sc A id lv mc ms) (h1 : xci1 id pc (.iaload) = true) (h2 : xci2 id pc (.iaload) = true) (Hk : xGo (fun H locs cells slots g => W p l e R s m args below meth c H locs cells slots Q g) (xI D ad0 cA0 n0 sc A s) m sad (xmaxL id) mc ms x (pc + xilen (.iaload)) k) : xGo (fun H locs cells slots g => W p l e R s m args below meth c H locs cells slots Q g) (xI D ad0 cA0 n0 sc A s) m sad (xmaxL id) mc ms x pc (xins J C (xown id) id lv pc (.iaload) k) := by
  intro ad cA w H locs cells slots ls L st b hI hL hs hc hb h
  obtain ⟨hx, hcc, hr, hml, hown, hts, hlk, hK, hin, hst, hA, hRf, hRl, hRc, hRs, hN⟩ := cx
  have hd := xdec h1 rfl
  dsimp only [xins] at h
  split at h
  · rename_i i t st'
    split at h
    · obtain ⟨hg, h⟩ := xg_some h
      rw [hI.2.2.2.2.2.1] at hg h
      exact va_ti hx hcc hst.2.2.2.1 hI.2.2.2.2.1 (xvp hg) rfl hd (Hk ad cA w H locs cells slots ls L (.int (sc.2 i.toNatClampNeg) :: st') b hI hL (xs_cons trivial (xs_tl (xs_tl hs))) hc hb h)
    · rename_i ht4
      obtain ⟨hg, h⟩ := xg_some h
      have h5 : t < 5 := xs_hd (xs_tl hs)
      have h0 : 0 < t := by
        rcases Nat.eq_zero_or_pos t with q | q
        · subst q
          exact absurd (xvp hg) (fun z => z (Or.inr (Nat.zero_le _)))
        · exact q
      have h4 : t < 4 := by
        rcases Nat.lt_or_ge t 4 with q | q
        · exact q
        · exact absurd (show t = 4 by omega) ht4
      exact va_ti hx hcc (hst.2.2.1 t h0 h4) hI.2.2.2.2.1 (xvp hg) rfl hd (Hk ad cA w H locs cells slots ls L (.int (iI (xsi t i.toNatClampNeg)) :: st') b hI hL (xs_cons trivial (xs_tl (xs_tl hs))) hc hb h)
  · rename_i i v st' hne
    obtain ⟨a, rfl, h⟩ := xde_some h
    obtain ⟨hg, h⟩ := xg_some h
    obtain ⟨hak, hin2⟩ := xoa_in hg
    have hlt : a < xn w := xs_hd (xs_tl hs)
    have hAr := hI.2.2.1 a hlt (by rw [hak]; decide)
    rw [hak] at hAr
    exact va_iald (D := D) hx hcc (xKa hK hAr) hI.1 a 0 (by rw [xws_at hlt, xcell_i hak]) rfl hin2 hd (Hk ad cA w H locs cells slots ls L (.int (xIA w a i.toNatClampNeg) :: st') b hI hL (xs_cons trivial (xs_tl (xs_tl hs))) hc hb h)
  · cases h

theorem xi_laload (cx : xCx p R s m args meth c D sad sc A id lv mc ms) (h1 : xci1 id pc (.laload) = true) (h2 : xci2 id pc (.laload) = true) (Hk : xGo (fun H locs cells slots g => W p l e R s m args below meth c H locs cells slots Q g) (xI D ad0 cA0 n0 sc A s) m sad (xmaxL id) mc ms x (pc + xilen (.laload)) k) : xGo (fun H locs cells slots g => W p l e R s m args below meth c H locs cells slots Q g) (xI D ad0 cA0 n0 sc A s) m sad (xmaxL id) mc ms x pc (xins J C (xown id) id lv pc (.laload) k) := by
  intro ad cA w H locs cells slots ls L st b hI hL hs hc hb h
  obtain ⟨hx, hcc, hr, hml, hown, hts, hlk, hK, hin, hst, hA, hRf, hRl, hRc, hRs, hN⟩ := cx
  have hd := xdec h1 rfl
  dsimp only [xins] at h
  split at h
  · rename_i i t st'
    have hg := (xg_some h).1
    simp only [Bool.and_eq_true, beq_iff_eq] at hg
    obtain ⟨ht, hg⟩ := hg
    subst ht
    obtain ⟨-, h⟩ := xg_some h
    exact va_tl hx hcc hst.2.1 hI.2.2.2.2.1 (xvp hg) rfl hd (Hk ad cA w H locs cells slots ls L (.long (lI (xsl i.toNatClampNeg)) :: st') b hI hL (xs_cons trivial (xs_tl (xs_tl hs))) hc hb h)
  · rename_i i v st' hne
    obtain ⟨a, rfl, h⟩ := xde_some h
    obtain ⟨hg, h⟩ := xg_some h
    obtain ⟨hak, hin2⟩ := xoa_in hg
    have hlt : a < xn w := xs_hd (xs_tl hs)
    have hAr := hI.2.2.1 a hlt (by rw [hak]; decide)
    rw [hak] at hAr
    exact va_lald (D := D) hx hcc (xKa hK hAr) hI.1 a 0 (by rw [xws_at hlt, xcell_l hak]) rfl hin2 hd (Hk ad cA w H locs cells slots ls L (.long (xLA w a i.toNatClampNeg) :: st') b hI hL (xs_cons trivial (xs_tl (xs_tl hs))) hc hb h)
  · cases h

theorem xi_baload (cx : xCx p R s m args meth c D sad sc A id lv mc ms) (h1 : xci1 id pc (.baload) = true) (h2 : xci2 id pc (.baload) = true) (Hk : xGo (fun H locs cells slots g => W p l e R s m args below meth c H locs cells slots Q g) (xI D ad0 cA0 n0 sc A s) m sad (xmaxL id) mc ms x (pc + xilen (.baload)) k) : xGo (fun H locs cells slots g => W p l e R s m args below meth c H locs cells slots Q g) (xI D ad0 cA0 n0 sc A s) m sad (xmaxL id) mc ms x pc (xins J C (xown id) id lv pc (.baload) k) := by
  intro ad cA w H locs cells slots ls L st b hI hL hs hc hb h
  obtain ⟨hx, hcc, hr, hml, hown, hts, hlk, hK, hin, hst, hA, hRf, hRl, hRc, hRs, hN⟩ := cx
  have hd := xdec h1 rfl
  dsimp only [xins] at h
  split at h
  · rename_i i v st'
    obtain ⟨a, rfl, h⟩ := xde_some h
    obtain ⟨hg, h⟩ := xg_some h
    obtain ⟨hak, hin2⟩ := xoa_in hg
    have hlt : a < xn w := xs_hd (xs_tl hs)
    have hAr := hI.2.2.1 a hlt (by rw [hak]; decide)
    rw [hak] at hAr
    exact va_zald (D := D) hx hcc (xKa hK hAr) hI.1 a 0 (by rw [xws_at hlt, xcell_z hak]) rfl hin2 hd (Hk ad cA w H locs cells slots ls L (.int (xIA w a i.toNatClampNeg) :: st') b hI hL (xs_cons trivial (xs_tl (xs_tl hs))) hc hb h)
  · cases h

theorem xi_aaload (cx : xCx p R s m args meth c D sad sc A id lv mc ms) (h1 : xci1 id pc (.aaload) = true) (h2 : xci2 id pc (.aaload) = true) (Hk : xGo (fun H locs cells slots g => W p l e R s m args below meth c H locs cells slots Q g) (xI D ad0 cA0 n0 sc A s) m sad (xmaxL id) mc ms x (pc + xilen (.aaload)) k) : xGo (fun H locs cells slots g => W p l e R s m args below meth c H locs cells slots Q g) (xI D ad0 cA0 n0 sc A s) m sad (xmaxL id) mc ms x pc (xins J C (xown id) id lv pc (.aaload) k) := by
  intro ad cA w H locs cells slots ls L st b hI hL hs hc hb h
  obtain ⟨hx, hcc, hr, hml, hown, hts, hlk, hK, hin, hst, hA, hRf, hRl, hRc, hRs, hN⟩ := cx
  have hd := xdec h1 rfl
  dsimp only [xins] at h
  split at h
  · rename_i i v st'
    obtain ⟨a, rfl, h⟩ := xde_some h
    obtain ⟨hg, h⟩ := xg_some h
    obtain ⟨hak, hin2⟩ := xoa_in hg
    obtain ⟨q, hq, h⟩ := xo_some h
    have hlt : a < xn w := xs_hd (xs_tl hs)
    have hAr := hI.2.2.1 a hlt (by rw [hak]; decide)
    rw [hak] at hAr
    have hqn : q < xn w := hI.2.2.2.1.2 _ _ _ hq
    refine va_aldq (D := D) hx hcc (xKa hK hAr) hI.1 a 0 (by rw [xws_at hlt, xcell_q hak]) rfl hin2 hd ?_
    try dsimp only
    rw [hq]
    exact Hk ad cA w H locs cells slots ls L (.ref q :: st') b hI hL (xs_cons hqn (xs_tl (xs_tl hs))) hc hb h
  · cases h

theorem xi_iastore (cx : xCx p R s m args meth c D sad sc A id lv mc ms) (h1 : xci1 id pc (.iastore) = true) (h2 : xci2 id pc (.iastore) = true) (Hk : xGo (fun H locs cells slots g => W p l e R s m args below meth c H locs cells slots Q g) (xI D ad0 cA0 n0 sc A s) m sad (xmaxL id) mc ms x (pc + xilen (.iastore)) k) : xGo (fun H locs cells slots g => W p l e R s m args below meth c H locs cells slots Q g) (xI D ad0 cA0 n0 sc A s) m sad (xmaxL id) mc ms x pc (xins J C (xown id) id lv pc (.iastore) k) := by
  intro ad cA w H locs cells slots ls L st b hI hL hs hc hb h
  obtain ⟨hx, hcc, hr, hml, hown, hts, hlk, hK, hin, hst, hA, hRf, hRl, hRc, hRs, hN⟩ := cx
  have hd := xdec h1 rfl
  dsimp only [xins] at h
  split at h
  · rename_i z i v st'
    obtain ⟨a, rfl, h⟩ := xde_some h
    obtain ⟨hg, h⟩ := xg_some h
    obtain ⟨hak, hin2⟩ := xoa_in hg
    have hlt : a < xn w := xs_hd (xs_tl (xs_tl hs))
    have hAr := hI.2.2.1 a hlt (by rw [hak]; decide)
    rw [hak] at hAr
    have hE : xcell ad cA (xpI w a i.toNatClampNeg z) a = .inl (cA a, xln w a, .inl (upd (xIA w a) i.toNatClampNeg z)) := by
      rw [xcell_i hak]
      have e : xIA (xpI w a i.toNatClampNeg z) a = upd (xIA w a) i.toNatClampNeg z := if_pos rfl
      rw [e]
      rfl
    exact va_iast (D := D) hx hcc (xKa hK hAr) hI.1 hI.2.1 hI.2.2.2.2.1 a 0 (by rw [xws_at hlt, xcell_i hak]) rfl hin2 hd (fun H1 locs1 hP1 hD1 hS1 => Hk ad cA (xpI w a i.toNatClampNeg z) H1 locs1 cells slots ls L st' b (hI.upd (a := a) rfl rfl (fun q hq => xcell_pI hq) hE hI.2.2.2.1 hP1 hD1 hS1) (hL.grow (Nat.le_refl _) (fun _ _ => rfl)) (xs_grow (Nat.le_refl _) (xs_tl (xs_tl (xs_tl hs)))) hc hb h)
  · cases h

theorem xi_bastore (cx : xCx p R s m args meth c D sad sc A id lv mc ms) (h1 : xci1 id pc (.bastore) = true) (h2 : xci2 id pc (.bastore) = true) (Hk : xGo (fun H locs cells slots g => W p l e R s m args below meth c H locs cells slots Q g) (xI D ad0 cA0 n0 sc A s) m sad (xmaxL id) mc ms x (pc + xilen (.bastore)) k) : xGo (fun H locs cells slots g => W p l e R s m args below meth c H locs cells slots Q g) (xI D ad0 cA0 n0 sc A s) m sad (xmaxL id) mc ms x pc (xins J C (xown id) id lv pc (.bastore) k) := by
  intro ad cA w H locs cells slots ls L st b hI hL hs hc hb h
  obtain ⟨hx, hcc, hr, hml, hown, hts, hlk, hK, hin, hst, hA, hRf, hRl, hRc, hRs, hN⟩ := cx
  have hd := xdec h1 rfl
  dsimp only [xins] at h
  split at h
  · rename_i z i v st'
    obtain ⟨a, rfl, h⟩ := xde_some h
    obtain ⟨hg, h⟩ := xg_some h
    obtain ⟨hz, h⟩ := xg_some h
    obtain ⟨hak, hin2⟩ := xoa_in hg
    have hlt : a < xn w := xs_hd (xs_tl (xs_tl hs))
    have hAr := hI.2.2.1 a hlt (by rw [hak]; decide)
    rw [hak] at hAr
    have hzz : vp_nar .boolean z = z := by
      unfold xz01 at hz
      simp only [Bool.or_eq_true, decide_eq_true_eq] at hz
      rcases hz with rfl | rfl <;> decide
    have hE : xcell ad cA (xpI w a i.toNatClampNeg z) a = .inl (cA a, xln w a, .inl (upd (xIA w a) i.toNatClampNeg (vp_nar .boolean z))) := by
      rw [xcell_z hak, hzz]
      have e : xIA (xpI w a i.toNatClampNeg z) a = upd (xIA w a) i.toNatClampNeg z := if_pos rfl
      rw [e]
      rfl
    exact va_zast (D := D) hx hcc (xKa hK hAr) hI.1 hI.2.1 hI.2.2.2.2.1 a 0 (by rw [xws_at hlt, xcell_z hak]) rfl hin2 hd (fun H1 locs1 hP1 hD1 hS1 => Hk ad cA (xpI w a i.toNatClampNeg z) H1 locs1 cells slots ls L st' b (hI.upd (a := a) rfl rfl (fun q hq => xcell_pI hq) hE hI.2.2.2.1 hP1 hD1 hS1) (hL.grow (Nat.le_refl _) (fun _ _ => rfl)) (xs_grow (Nat.le_refl _) (xs_tl (xs_tl (xs_tl hs)))) hc hb h)
  · cases h

theorem xi_lastore (cx : xCx p R s m args meth c D sad sc A id lv mc ms) (h1 : xci1 id pc (.lastore) = true) (h2 : xci2 id pc (.lastore) = true) (Hk : xGo (fun H locs cells slots g => W p l e R s m args below meth c H locs cells slots Q g) (xI D ad0 cA0 n0 sc A s) m sad (xmaxL id) mc ms x (pc + xilen (.lastore)) k) : xGo (fun H locs cells slots g => W p l e R s m args below meth c H locs cells slots Q g) (xI D ad0 cA0 n0 sc A s) m sad (xmaxL id) mc ms x pc (xins J C (xown id) id lv pc (.lastore) k) := by
  intro ad cA w H locs cells slots ls L st b hI hL hs hc hb h
  obtain ⟨hx, hcc, hr, hml, hown, hts, hlk, hK, hin, hst, hA, hRf, hRl, hRc, hRs, hN⟩ := cx
  have hd := xdec h1 rfl
  dsimp only [xins] at h
  split at h
  · rename_i z i v st'
    obtain ⟨a, rfl, h⟩ := xde_some h
    obtain ⟨hg, h⟩ := xg_some h
    obtain ⟨hak, hin2⟩ := xoa_in hg
    have hlt : a < xn w := xs_hd (xs_tl (xs_tl hs))
    have hAr := hI.2.2.1 a hlt (by rw [hak]; decide)
    rw [hak] at hAr
    have hE : xcell ad cA (xpL w a i.toNatClampNeg z) a = .inl (cA a, xln w a, .inr (.inl (vp_updL (xLA w a) i.toNatClampNeg z))) := by
      rw [xcell_l hak]
      have e : xLA (xpL w a i.toNatClampNeg z) a = vp_updL (xLA w a) i.toNatClampNeg z := if_pos rfl
      rw [e]
      rfl
    exact va_last (D := D) hx hcc (xKa hK hAr) hI.1 hI.2.1 hI.2.2.2.2.1 a 0 (by rw [xws_at hlt, xcell_l hak]) rfl hin2 hd (fun H1 locs1 hP1 hD1 hS1 => Hk ad cA (xpL w a i.toNatClampNeg z) H1 locs1 cells slots ls L st' b (hI.upd (a := a) rfl rfl (fun q hq => xcell_pL hq) hE hI.2.2.2.1 hP1 hD1 hS1) (hL.grow (Nat.le_refl _) (fun _ _ => rfl)) (xs_grow (Nat.le_refl _) (xs_tl (xs_tl (xs_tl hs)))) hc hb h)
  · cases h

theorem xi_aastore (cx : xCx p R s m args meth c D sad sc A id lv mc ms) (h1 : xci1 id pc (.aastore) = true) (h2 : xci2 id pc (.aastore) = true) (Hk : xGo (fun H locs cells slots g => W p l e R s m args below meth c H locs cells slots Q g) (xI D ad0 cA0 n0 sc A s) m sad (xmaxL id) mc ms x (pc + xilen (.aastore)) k) : xGo (fun H locs cells slots g => W p l e R s m args below meth c H locs cells slots Q g) (xI D ad0 cA0 n0 sc A s) m sad (xmaxL id) mc ms x pc (xins J C (xown id) id lv pc (.aastore) k) := by
  intro ad cA w H locs cells slots ls L st b hI hL hs hc hb h
  obtain ⟨hx, hcc, hr, hml, hown, hts, hlk, hK, hin, hst, hA, hRf, hRl, hRc, hRs, hN⟩ := cx
  have hd := xdec h1 rfl
  dsimp only [xins] at h
  split at h
  · rename_i q i v st'
    obtain ⟨a, rfl, h⟩ := xde_some h
    obtain ⟨hg, h⟩ := xg_some h
    simp only [Bool.and_eq_true] at hg
    obtain ⟨hak, hin2⟩ := xoa_in hg.1
    obtain ⟨hqc, hqk⟩ := xak_cls hg.2 (by decide)
    have hlt : a < xn w := xs_hd (xs_tl (xs_tl hs))
    have hqn : q < xn w := xs_hd hs
    have hAr := hI.2.2.1 a hlt (by rw [hak]; decide)
    rw [hak] at hAr
    have hE : xcell ad cA (xpA w a i.toNatClampNeg (some q)) a = .inl (cA a, xln w a, .inr (.inr (.inr (.inr (va_up (fun j => (xRA w a j).map ad) i.toNatClampNeg (some (ad q))))))) := by
      rw [xcell_q hak]
      have e : xRA (xpA w a i.toNatClampNeg (some q)) a = va_up (xRA w a) i.toNatClampNeg (some q) := if_pos rfl
      have e2 : (fun j => (xRA (xpA w a i.toNatClampNeg (some q)) a j).map ad) = va_up (fun j => (xRA w a j).map ad) i.toNatClampNeg (some (ad q)) := by
        funext j
        rw [e]
        unfold va_up
        split
        · rfl
        · rfl
      rw [e2]
      rfl
    have hV : xVR (xpA w a i.toNatClampNeg (some q)) := by
      have e : xRA (xpA w a i.toNatClampNeg (some q)) = va_up (xRA w) a (va_up (xRA w a) i.toNatClampNeg (some q)) := rfl
      refine ⟨hI.2.2.2.1.1, fun a' f' q' h' => ?_⟩
      rw [e] at h'
      simp only [va_up] at h'
      split at h'
      · simp only [va_up] at h'
        split at h'
        · cases h'; exact hqn
        · exact hI.2.2.2.1.2 _ _ _ h'
      · exact hI.2.2.2.1.2 _ _ _ h'
    exact va_astq (D := D) hx hcc (xKa hK hAr) hI.1 hI.2.1 hI.2.2.2.2.1 a 0 q xTab (r := (xcn xTab, xT xTab, xNf xTab)) (by rw [xws_at hlt, xcell_q hak]) rfl (by rw [xws_at hqn, xcell_obj hqc hqk]) (xcl_at (by decide)) hin2 hd (fun H1 locs1 hP1 hD1 hS1 => Hk ad cA (xpA w a i.toNatClampNeg (some q)) H1 locs1 cells slots ls L st' b (hI.upd (a := a) rfl rfl (fun q hq => xcell_pA hq) hE hV hP1 hD1 hS1) (hL.grow (Nat.le_refl _) (fun _ _ => rfl)) (xs_grow (Nat.le_refl _) (xs_tl (xs_tl (xs_tl hs)))) hc hb h)
  · cases h

theorem xi_arraylength (cx : xCx p R s m args meth c D sad sc A id lv mc ms) (h1 : xci1 id pc (.arraylength) = true) (h2 : xci2 id pc (.arraylength) = true) (Hk : xGo (fun H locs cells slots g => W p l e R s m args below meth c H locs cells slots Q g) (xI D ad0 cA0 n0 sc A s) m sad (xmaxL id) mc ms x (pc + xilen (.arraylength)) k) : xGo (fun H locs cells slots g => W p l e R s m args below meth c H locs cells slots Q g) (xI D ad0 cA0 n0 sc A s) m sad (xmaxL id) mc ms x pc (xins J C (xown id) id lv pc (.arraylength) k) := by
  intro ad cA w H locs cells slots ls L st b hI hL hs hc hb h
  obtain ⟨hx, hcc, hr, hml, hown, hts, hlk, hK, hin, hst, hA, hRf, hRl, hRc, hRs, hN⟩ := cx
  have hd := xdec h1 rfl
  dsimp only [xins] at h
  split at h
  · rename_i t st'
    obtain ⟨hg, h⟩ := xg_some h
    have ht : t = 4 := eq_of_beq hg
    subst ht
    rw [hI.2.2.2.2.2.1] at h
    exact va_tlen hx hcc hst.2.2.2.1 hI.2.2.2.2.1 (xofN _) hd (Hk ad cA w H locs cells slots ls L (.int (iI sc.1) :: st') b hI hL (xs_cons trivial (xs_tl hs)) hc hb h)
  · rename_i v st' hne
    obtain ⟨a, rfl, h⟩ := xde_some h
    obtain ⟨hg, h⟩ := xg_some h
    have h0 : 0 < xak a := Nat.le_of_ble_eq_true hg
    have hlt : a < xn w := xs_hd hs
    have hAr := hI.2.2.1 a hlt (by omega)
    have hc : ∃ z : vp_A, xcell ad cA w a = .inl (cA a, z) ∧ z.1 = xln w a := by
      unfold xcell
      split
      · omega
      · exact ⟨_, rfl, rfl⟩
      · exact ⟨_, rfl, rfl⟩
      · exact ⟨_, rfl, rfl⟩
    obtain ⟨z, hz, hz1⟩ := hc
    exact va_alen (D := D) hx hcc (xKa hK hAr) hI.1 a 0 (by rw [xws_at hlt, hz]) rfl (by rw [hz1]; exact xofN _) hd (Hk ad cA w H locs cells slots ls L (.int (iI (xln w a)) :: st') b hI hL (xs_cons trivial (xs_tl hs)) hc hb h)
  · cases h

theorem xI.push {ad : Nat → Nat} {cA : Nat → ClassId} {w : XW} {H : Heap} {locs : List Loc} (hI : xI D ad0 cA0 n0 sc A s ad cA w H locs) {w' : XW} {q : Nat} {ca : ClassId} {E : va_E} {H1 : Heap} (hn : xn w' = xn w + 1) (hsc : xSc w' = xSc w)
    (ho : ∀ a, a < xn w → xcell (va_up ad (xn w) q) (va_up cA (xn w) ca) w' a = xcell ad cA w a) (hE : xcell (va_up ad (xn w) q) (va_up cA (xn w) ca) w' (xn w) = E) (hv : xVR w') (hAr : xak (xn w) ≠ 0 → ArrOfT s ca (xtyp (xak (xn w))) ∧ va_RA s ca (xtyp (xak (xn w))))
    (hP : va_P D vwCl (xws ad cA w ++ [(q, E)]) H1) (hD : va_D A (xws ad cA w ++ [(q, E)])) (hS : va_S A s.heap H1 locs) :
    xI D ad0 cA0 n0 sc A s (va_up ad (xn w) q) (va_up cA (xn w) ca) w' H1 locs := by
  obtain ⟨-, -, h3, h4, -, h6, h7, h8⟩ := hI
  have e : xws ad cA w ++ [(q, E)] = xws (va_up ad (xn w) q) (va_up cA (xn w) ca) w' := xws_push hn (fun a ha => ⟨if_neg (by omega), ho a ha⟩) (if_pos rfl) hE
  rw [e] at hP hD
  refine ⟨hP, hD, fun a ha h0 => ?_, hv, hS, by rw [hsc]; exact h6, by omega, fun a ha => ?_⟩
  · by_cases ea : a = xn w
    · subst ea
      have : va_up cA (xn w) ca (xn w) = ca := if_pos rfl
      rw [this]
      exact hAr h0
    · have : va_up cA (xn w) ca a = cA a := if_neg ea
      rw [this]
      exact h3 a (by omega) h0
  · have e1 : va_up ad (xn w) q a = ad a := if_neg (by omega)
    have e2 : va_up cA (xn w) ca a = cA a := if_neg (by omega)
    rw [e1, e2]
    exact h8 a ha

theorem xmap_up {ad : Nat → Nat} {n q : Nat} {r : Option Nat} (h : ∀ z, r = some z → z < n) : r.map (va_up ad n q) = r.map ad := by
  cases r with
  | none => rfl
  | some z =>
    have := h z rfl
    have e1 : va_up ad n q z = ad z := if_neg (by omega)
    show some (va_up ad n q z) = some (ad z)
    rw [e1]
theorem xcell_mO {ad : Nat → Nat} {cA : Nat → ClassId} {w : XW} {q : Nat} {ca : ClassId} {a : Nat} (hv : xVR w) (h : a < xn w) : xcell (va_up ad (xn w) q) (va_up cA (xn w) ca) (xmO w) a = xcell ad cA w a := by
  have e1 : xIF (xmO w) a = xIF w a := if_neg (Nat.ne_of_lt h)
  have e2 : xRF (xmO w) a = xRF w a := if_neg (Nat.ne_of_lt h)
  have e3 : va_up cA (xn w) ca a = cA a := if_neg (by omega)
  have e4 : ∀ f, (xRF w a f).map (va_up ad (xn w) q) = (xRF w a f).map ad := fun f => xmap_up (fun z hz => hv.1 _ _ _ hz)
  have e5 : ∀ j, (xRA w a j).map (va_up ad (xn w) q) = (xRA w a j).map ad := fun f => xmap_up (fun z hz => hv.2 _ _ _ hz)
  have e6 : xRA (xmO w) a = xRA w a := rfl
  unfold xcell xfs xfv
  rw [e1, e2, e3, e6]
  simp only [e4, e5]
  rfl
theorem xln_mA {w : XW} {N a : Nat} (h : a ≠ xn w) : xln (xmA w N) a = xln w a := by
  unfold xln
  split
  · rfl
  · exact if_neg h
theorem xcell_mA {ad : Nat → Nat} {cA : Nat → ClassId} {w : XW} {q : Nat} {ca : ClassId} {a N : Nat} (hv : xVR w) (h : a < xn w) : xcell (va_up ad (xn w) q) (va_up cA (xn w) ca) (xmA w N) a = xcell ad cA w a := by
  have e1 : xIA (xmA w N) a = xIA w a := if_neg (Nat.ne_of_lt h)
  have e2 : xLA (xmA w N) a = xLA w a := if_neg (Nat.ne_of_lt h)
  have e3 : va_up cA (xn w) ca a = cA a := if_neg (by omega)
  have e4 : ∀ f, (xRF w a f).map (va_up ad (xn w) q) = (xRF w a f).map ad := fun f => xmap_up (fun z hz => hv.1 _ _ _ hz)
  have e5 : ∀ j, (xRA w a j).map (va_up ad (xn w) q) = (xRA w a j).map ad := fun f => xmap_up (fun z hz => hv.2 _ _ _ hz)
  have e6 : xRA (xmA w N) a = xRA w a := if_neg (Nat.ne_of_lt h)
  have e7 : xRF (xmA w N) = xRF w := rfl
  have e8 : xIF (xmA w N) = xIF w := rfl
  unfold xcell xfs xfv
  rw [e1, e2, e3, e6, e7, e8, xln_mA (by omega)]
  simp only [e4, e5]
theorem xVR_mO {w : XW} (h : xVR w) : xVR (xmO w) := by
  have e : xRF (xmO w) = va_up (xRF w) (xn w) (fun _ => none) := rfl
  have en : xn (xmO w) = xn w + 1 := rfl
  refine ⟨fun a f q hq => ?_, fun a j q hq => ?_⟩
  · rw [e] at hq
    unfold va_up at hq
    split at hq
    · cases hq
    · have := h.1 _ _ _ hq; omega
  · have := h.2 a j q hq; omega
theorem xVR_mA {w : XW} {N : Nat} (h : xVR w) : xVR (xmA w N) := by
  have e : xRA (xmA w N) = va_up (xRA w) (xn w) (fun _ => none) := rfl
  have en : xn (xmA w N) = xn w + 1 := rfl
  refine ⟨fun a f q hq => ?_, fun a j q hq => ?_⟩
  · have := h.1 a f q hq; omega
  · rw [e] at hq
    unfold va_up at hq
    split at hq
    · cases hq
    · have := h.2 _ _ _ hq; omega
theorem xln_new {w : XW} {N : Nat} (h : xlok (xn w) N = true) : xln (xmA w N) (xn w) = N := by
  unfold xlok at h
  unfold xln
  split
  · rename_i k hk
    rw [hk] at h
    exact eq_of_beq h
  · exact if_pos rfl

theorem xi_new {idx : Nat} (cx : xCx p R s m args meth c D sad sc A id lv mc ms) (h1 : xci1 id pc (.new idx) = true) (h2 : xci2 id pc (.new idx) = true) (Hk : xGo (fun H locs cells slots g => W p l e R s m args below meth c H locs cells slots Q g) (xI D ad0 cA0 n0 sc A s) m sad (xmaxL id) mc ms x (pc + xilen (.new idx)) k) : xGo (fun H locs cells slots g => W p l e R s m args below meth c H locs cells slots Q g) (xI D ad0 cA0 n0 sc A s) m sad (xmaxL id) mc ms x pc (xins J C (xown id) id lv pc (.new idx) k) := by
  intro ad cA w H locs cells slots ls L st b hI hL hs hc hb h
  obtain ⟨hx, hcc, hr, hml, hown, hts, hlk, hK, hin, hst, hA, hRf, hRl, hRc, hRs, hN⟩ := cx
  have hd := xdec h1 rfl
  dsimp only [xins] at h
  split at h
  · rename_i ci N hw
    obtain ⟨hg, h⟩ := xg_some h
    simp only [Bool.and_eq_true] at hg
    obtain ⟨⟨hg1, hg2⟩, hg3⟩ := hg
    have hb1 : 0 < b.1 := Nat.le_of_ble_eq_true hg2
    have hb2 : N ≤ b.2 := Nat.le_of_ble_eq_true hg3
    obtain ⟨hc8, rfl, hl1, hl2, hl3⟩ := xnw_ok hw
    obtain ⟨hcls, hak⟩ := xak_cls hg1 hc8
    have hfs : ∀ j, j < xNf ci → defaultValue (xty ci j) = vp_V (xfs ad (xmO w) (xn w) ci) j := by
      intro j hj
      unfold vp_V
      rw [List.getD_eq_getElem?_getD, xfs_at hj]
      have e1 : xIF (xmO w) (xn w) = fun _ => 0 := if_pos rfl
      have e2 : xRF (xmO w) (xn w) = fun _ => none := if_pos rfl
      unfold xfv
      cases hi : xfint ci j with
      | true => rw [xft_int hc8 hj hi, e1]; rfl
      | false => rw [(xft_ref hc8 hj hi 0).2.2, e2]; rfl
    refine va_new (D := D) hx hcc hts (xcl_in0 ci hc8) (xty ci) (xcl_ty0 ci hc8) hown (hts _ hl1) (hts _ hl2) (hts _ hl3) hK hI.1 hI.2.1 hI.2.2.2.2.1 hA (xcl_at hc8) hfs (by omega) (by omega) hd (fun q H1 hP1 hD1 hS1 => ?_)
    have e2 : xRF (xmO w) (xn w) = fun _ => none := if_pos rfl
    have hE : xcell (va_up ad (xn w) q) (va_up cA (xn w) (cA 0)) (xmO w) (xn w) = .inr (ci, xfs ad (xmO w) (xn w) ci) := by
      rw [xcell_obj hcls hak]
      unfold xfs xfv
      rw [e2]
      rfl
    have hI' := hI.push (w' := xmO w) (q := q) (ca := cA 0) rfl rfl (fun a ha => xcell_mO hI.2.2.2.1 ha) hE (xVR_mO hI.2.2.2.1) (fun z => absurd hak z) hP1 hD1 hS1
    rw [xs_map (ad' := va_up ad (xn w) q) (fun a ha => if_neg (Nat.ne_of_lt ha)) hs]
    have hk := Hk _ _ (xmO w) H1 locs (cells + 1) (slots + xNf ci) ls L (.ref (xn w) :: st) (b.1 - 1, b.2 - xNf ci) hI' (hL.grow (Nat.le_succ _) (fun a ha => if_neg (Nat.ne_of_lt ha))) (xs_cons (Nat.lt_succ_self _) (xs_grow (Nat.le_succ _) hs)) (by show cells + 1 + (b.1 - 1) = mc; omega) (by show slots + xNf ci + (b.2 - xNf ci) = ms; omega) h
    have e : xv (va_up ad (xn w) q) sad (.ref (xn w)) = .ref q := by show Value.ref (va_up ad (xn w) q (xn w)) = _; rw [show va_up ad (xn w) q (xn w) = q from if_pos rfl]
    rw [List.map_cons, e] at hk
    exact hk
  · cases h

theorem xi_newarray {t : ArrayType} (cx : xCx p R s m args meth c D sad sc A id lv mc ms) (h1 : xci1 id pc (.newarray t) = true) (h2 : xci2 id pc (.newarray t) = true) (Hk : xGo (fun H locs cells slots g => W p l e R s m args below meth c H locs cells slots Q g) (xI D ad0 cA0 n0 sc A s) m sad (xmaxL id) mc ms x (pc + xilen (.newarray t)) k) : xGo (fun H locs cells slots g => W p l e R s m args below meth c H locs cells slots Q g) (xI D ad0 cA0 n0 sc A s) m sad (xmaxL id) mc ms x pc (xins J C (xown id) id lv pc (.newarray t) k) := by
  intro ad cA w H locs cells slots ls L st b hI hL hs hc hb h
  obtain ⟨hx, hcc, hr, hml, hown, hts, hlk, hK, hin, hst, hA, hRf, hRl, hRc, hRs, hN⟩ := cx
  have hd := xdec h1 rfl
  dsimp only [xins] at h
  split at h
  · rename_i n st'
    have hg := (xg_some h).1
    replace h := (xg_some h).2
    unfold xnok at hg
    simp only [Bool.and_eq_true] at hg
    obtain ⟨⟨⟨⟨hg1, hg2⟩, hg3⟩, hg4⟩, hg5⟩ := hg
    have hb1 : 0 < b.1 := Nat.le_of_ble_eq_true hg3
    have hb2 : n.toNatClampNeg ≤ b.2 := Nat.le_of_ble_eq_true hg4
    have hn0 : ¬ n < 0 := fun z => xvp hg2 (Or.inl z)
    have hn1 : n.toNatClampNeg < 65536 := Nat.not_le.mp (fun z => xvp hg2 (Or.inr z))
    have hmem : Cond.arrayClass (newarray.typeOf t) ∈ xtb := by
      simp only [xci2, Bool.and_eq_true] at h2
      exact xmem_in h2.1
    cases t with
    | int =>
      have hak : xak (xn w) = 1 := eq_of_beq hg1
      have hby : n.toNatClampNeg * componentBytes .int ≤ 536870912 := Nat.le_trans (Nat.mul_le_mul (Nat.le_of_lt hn1) (show componentBytes .int ≤ 8 by decide)) (by decide)
      refine va_newa (D := D) (tys := []) (ty := .int) (a0 := (n.toNatClampNeg, .inl (fun _ => 0))) hx hcc (hts _ hmem) rfl hK hI.1 hI.2.1 hI.2.2.2.2.1 hA (fun _ => rfl) hn0 rfl hby (by omega) (by omega) hd (fun q ca H1 hK1 hP1 hD1 hS1 => ?_)
      have hE : xcell (va_up ad (xn w) q) (va_up cA (xn w) ca) (xmA w n.toNatClampNeg) (xn w) = .inl (ca, (n.toNatClampNeg, .inl (fun _ => 0))) := by
        rw [xcell_i hak, xln_new hg5]
        have e1 : xIA (xmA w n.toNatClampNeg) (xn w) = fun _ => 0 := if_pos rfl
        have e2 : va_up cA (xn w) ca (xn w) = ca := if_pos rfl
        rw [e1, e2]
      have hI' := hI.push (w' := xmA w n.toNatClampNeg) (q := q) (ca := ca) rfl rfl (fun a ha => xcell_mA hI.2.2.2.1 ha) hE (xVR_mA hI.2.2.2.1) (fun _ => by rw [hak]; exact hK1.2 0 _ rfl) hP1 hD1 hS1
      rw [xs_map (ad' := va_up ad (xn w) q) (fun a ha => if_neg (Nat.ne_of_lt ha)) (xs_tl hs)]
      have hk := Hk _ _ (xmA w n.toNatClampNeg) H1 locs (cells + 1) (slots + n.toNatClampNeg) ls L (.ref (xn w) :: st') (b.1 - 1, b.2 - n.toNatClampNeg) hI' (hL.grow (Nat.le_succ _) (fun a ha => if_neg (Nat.ne_of_lt ha))) (xs_cons (Nat.lt_succ_self _) (xs_grow (Nat.le_succ _) (xs_tl hs))) (by show cells + 1 + (b.1 - 1) = mc; omega) (by show slots + n.toNatClampNeg + (b.2 - n.toNatClampNeg) = ms; omega) h
      have e : xv (va_up ad (xn w) q) sad (.ref (xn w)) = .ref q := by show Value.ref (va_up ad (xn w) q (xn w)) = _; rw [show va_up ad (xn w) q (xn w) = q from if_pos rfl]
      rw [List.map_cons, e] at hk
      exact hk
    | boolean =>
      have hak : xak (xn w) = 2 := eq_of_beq hg1
      have hby : n.toNatClampNeg * componentBytes .boolean ≤ 536870912 := Nat.le_trans (Nat.mul_le_mul (Nat.le_of_lt hn1) (show componentBytes .boolean ≤ 8 by decide)) (by decide)
      refine va_newa (D := D) (tys := []) (ty := .boolean) (a0 := (n.toNatClampNeg, .inl (fun _ => 0))) hx hcc (hts _ hmem) rfl hK hI.1 hI.2.1 hI.2.2.2.2.1 hA (fun _ => rfl) hn0 rfl hby (by omega) (by omega) hd (fun q ca H1 hK1 hP1 hD1 hS1 => ?_)
      have hE : xcell (va_up ad (xn w) q) (va_up cA (xn w) ca) (xmA w n.toNatClampNeg) (xn w) = .inl (ca, (n.toNatClampNeg, .inl (fun _ => 0))) := by
        rw [xcell_z hak, xln_new hg5]
        have e1 : xIA (xmA w n.toNatClampNeg) (xn w) = fun _ => 0 := if_pos rfl
        have e2 : va_up cA (xn w) ca (xn w) = ca := if_pos rfl
        rw [e1, e2]
      have hI' := hI.push (w' := xmA w n.toNatClampNeg) (q := q) (ca := ca) rfl rfl (fun a ha => xcell_mA hI.2.2.2.1 ha) hE (xVR_mA hI.2.2.2.1) (fun _ => by rw [hak]; exact hK1.2 0 _ rfl) hP1 hD1 hS1
      rw [xs_map (ad' := va_up ad (xn w) q) (fun a ha => if_neg (Nat.ne_of_lt ha)) (xs_tl hs)]
      have hk := Hk _ _ (xmA w n.toNatClampNeg) H1 locs (cells + 1) (slots + n.toNatClampNeg) ls L (.ref (xn w) :: st') (b.1 - 1, b.2 - n.toNatClampNeg) hI' (hL.grow (Nat.le_succ _) (fun a ha => if_neg (Nat.ne_of_lt ha))) (xs_cons (Nat.lt_succ_self _) (xs_grow (Nat.le_succ _) (xs_tl hs))) (by show cells + 1 + (b.1 - 1) = mc; omega) (by show slots + n.toNatClampNeg + (b.2 - n.toNatClampNeg) = ms; omega) h
      have e : xv (va_up ad (xn w) q) sad (.ref (xn w)) = .ref q := by show Value.ref (va_up ad (xn w) q (xn w)) = _; rw [show va_up ad (xn w) q (xn w) = q from if_pos rfl]
      rw [List.map_cons, e] at hk
      exact hk
    | long =>
      have hak : xak (xn w) = 3 := eq_of_beq hg1
      have hby : n.toNatClampNeg * componentBytes .long ≤ 536870912 := Nat.le_trans (Nat.mul_le_mul (Nat.le_of_lt hn1) (show componentBytes .long ≤ 8 by decide)) (by decide)
      refine va_newa (D := D) (tys := []) (ty := .long) (a0 := (n.toNatClampNeg, .inr (.inl (fun _ => 0)))) hx hcc (hts _ hmem) rfl hK hI.1 hI.2.1 hI.2.2.2.2.1 hA (fun _ => rfl) hn0 rfl hby (by omega) (by omega) hd (fun q ca H1 hK1 hP1 hD1 hS1 => ?_)
      have hE : xcell (va_up ad (xn w) q) (va_up cA (xn w) ca) (xmA w n.toNatClampNeg) (xn w) = .inl (ca, (n.toNatClampNeg, .inr (.inl (fun _ => 0)))) := by
        rw [xcell_l hak, xln_new hg5]
        have e1 : xLA (xmA w n.toNatClampNeg) (xn w) = fun _ => 0 := if_pos rfl
        have e2 : va_up cA (xn w) ca (xn w) = ca := if_pos rfl
        rw [e1, e2]
      have hI' := hI.push (w' := xmA w n.toNatClampNeg) (q := q) (ca := ca) rfl rfl (fun a ha => xcell_mA hI.2.2.2.1 ha) hE (xVR_mA hI.2.2.2.1) (fun _ => by rw [hak]; exact hK1.2 0 _ rfl) hP1 hD1 hS1
      rw [xs_map (ad' := va_up ad (xn w) q) (fun a ha => if_neg (Nat.ne_of_lt ha)) (xs_tl hs)]
      have hk := Hk _ _ (xmA w n.toNatClampNeg) H1 locs (cells + 1) (slots + n.toNatClampNeg) ls L (.ref (xn w) :: st') (b.1 - 1, b.2 - n.toNatClampNeg) hI' (hL.grow (Nat.le_succ _) (fun a ha => if_neg (Nat.ne_of_lt ha))) (xs_cons (Nat.lt_succ_self _) (xs_grow (Nat.le_succ _) (xs_tl hs))) (by show cells + 1 + (b.1 - 1) = mc; omega) (by show slots + n.toNatClampNeg + (b.2 - n.toNatClampNeg) = ms; omega) h
      have e : xv (va_up ad (xn w) q) sad (.ref (xn w)) = .ref q := by show Value.ref (va_up ad (xn w) q (xn w)) = _; rw [show va_up ad (xn w) q (xn w) = q from if_pos rfl]
      rw [List.map_cons, e] at hk
      exact hk
    | _ =>
      simp only [xci2, Bool.and_eq_true] at h2
      exact absurd h2.2 (by decide)
  · cases h

theorem xi_anewarray {idx : Nat} (cx : xCx p R s m args meth c D sad sc A id lv mc ms) (h1 : xci1 id pc (.anewarray idx) = true) (h2 : xci2 id pc (.anewarray idx) = true) (Hk : xGo (fun H locs cells slots g => W p l e R s m args below meth c H locs cells slots Q g) (xI D ad0 cA0 n0 sc A s) m sad (xmaxL id) mc ms x (pc + xilen (.anewarray idx)) k) : xGo (fun H locs cells slots g => W p l e R s m args below meth c H locs cells slots Q g) (xI D ad0 cA0 n0 sc A s) m sad (xmaxL id) mc ms x pc (xins J C (xown id) id lv pc (.anewarray idx) k) := by
  intro ad cA w H locs cells slots ls L st b hI hL hs hc hb h
  obtain ⟨hx, hcc, hr, hml, hown, hts, hlk, hK, hin, hst, hA, hRf, hRl, hRc, hRs, hN⟩ := cx
  have hd := xdec h1 rfl
  dsimp only [xins] at h
  split at h
  · rename_i n st'
    have hg := (xg_some h).1
    replace h := (xg_some h).2
    unfold xnok at hg
    simp only [Bool.and_eq_true] at hg
    obtain ⟨⟨⟨⟨hg1, hg2⟩, hg3⟩, hg4⟩, hg5⟩ := hg
    have hb1 : 0 < b.1 := Nat.le_of_ble_eq_true hg3
    have hb2 : n.toNatClampNeg ≤ b.2 := Nat.le_of_ble_eq_true hg4
    have hn0 : ¬ n < 0 := fun z => xvp hg2 (Or.inl z)
    have hn1 : n.toNatClampNeg < 65536 := Nat.not_le.mp (fun z => xvp hg2 (Or.inr z))
    have hak : xak (xn w) = 4 := eq_of_beq hg1
    refine va_newq (D := D) (tys := []) hx hcc hown (hts _ (xmem_in h2)) hst.2.2.2.2 hK hI.1 hI.2.1 hI.2.2.2.2.1 hA hn0 rfl (by omega) (by omega) (by omega) hd (fun q ca H1 hK1 hP1 hD1 hS1 => ?_)
    have hE : xcell (va_up ad (xn w) q) (va_up cA (xn w) ca) (xmA w n.toNatClampNeg) (xn w) = .inl (ca, n.toNatClampNeg, .inr (.inr (.inr (.inr (fun _ => none))))) := by
      rw [xcell_q hak, xln_new hg5]
      have e1 : xRA (xmA w n.toNatClampNeg) (xn w) = fun _ => none := if_pos rfl
      have e2 : va_up cA (xn w) ca (xn w) = ca := if_pos rfl
      rw [e1, e2]
      rfl
    have hI' := hI.push (w' := xmA w n.toNatClampNeg) (q := q) (ca := ca) rfl rfl (fun a ha => xcell_mA hI.2.2.2.1 ha) hE (xVR_mA hI.2.2.2.1) (fun _ => by rw [hak]; exact hK1.2 0 _ rfl) hP1 hD1 hS1
    rw [xs_map (ad' := va_up ad (xn w) q) (fun a ha => if_neg (Nat.ne_of_lt ha)) (xs_tl hs)]
    have hk := Hk _ _ (xmA w n.toNatClampNeg) H1 locs (cells + 1) (slots + n.toNatClampNeg) ls L (.ref (xn w) :: st') (b.1 - 1, b.2 - n.toNatClampNeg) hI' (hL.grow (Nat.le_succ _) (fun a ha => if_neg (Nat.ne_of_lt ha))) (xs_cons (Nat.lt_succ_self _) (xs_grow (Nat.le_succ _) (xs_tl hs))) (by show cells + 1 + (b.1 - 1) = mc; omega) (by show slots + n.toNatClampNeg + (b.2 - n.toNatClampNeg) = ms; omega) h
    have e : xv (va_up ad (xn w) q) sad (.ref (xn w)) = .ref q := by show Value.ref (va_up ad (xn w) q (xn w)) = _; rw [show va_up ad (xn w) q (xn w) = q from if_pos rfl]
    rw [List.map_cons, e] at hk
    exact hk
  · cases h

end XINS2
