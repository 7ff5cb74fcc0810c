/-! ===== switches, calls, returns; then a whole method ===== -/
theorem iI_toInt {z : Int} (h1 : -2147483648 ≤ z) (h2 : z < 2147483648) : (iI z).toInt = z := Int32.toInt_ofInt_of_le h1 h2
theorem iI_is {x : Int32} {z : Int} (h1 : -2147483648 ≤ z) (h2 : z < 2147483648) : x = iI z ↔ x.toInt = z := by
  constructor
  · intro h; rw [h]; exact iI_toInt h1 h2
  · intro h; exact Int32.toInt_inj.mp (by rw [h, iI_toInt h1 h2])
theorem xsw_tab {x : Int32} {pc dt : Nat} {J : Nat → Option XR} : ∀ (os : List Int) (lo : Int), -2147483648 ≤ lo → lo + os.length ≤ 2147483648 →
    xsw x (xtab pc lo os) dt J = if lo ≤ x.toInt then (match os[(x.toInt - lo).toNat]? with
      | some o => J (xtg pc o)
      | none => J dt) else J dt := by
  intro os
  induction os with
  | nil => intro lo _ _; simp [xtab, xsw]
  | cons o os ih =>
    intro lo h1 h2
    have h2' : lo + (os.length : Int) + 1 ≤ 2147483648 := by simpa [Int.add_assoc] using h2
    show (if x = iI lo then J (xtg pc o) else xsw x (xtab pc (lo + 1) os) dt J) = _
    have hb := iI_is (x := x) (z := lo) h1 (by omega)
    by_cases e : x = iI lo
    · have e2 := hb.mp e
      rw [if_pos e, if_pos (by omega)]
      have : (x.toInt - lo).toNat = 0 := by omega
      rw [this]
      rfl
    · have e2 : x.toInt ≠ lo := fun q => e (hb.mpr q)
      rw [if_neg e, ih (lo + 1) (by omega) (by omega)]
      by_cases q : lo + 1 ≤ x.toInt
      · rw [if_pos q, if_pos (by omega)]
        have : (x.toInt - lo).toNat = (x.toInt - (lo + 1)).toNat + 1 := by omega
        rw [this, List.getElem?_cons_succ]
      · rw [if_neg q, if_neg (by omega)]
theorem xsw_look {x : Int32} {pc : Nat} {d : Int} {J : Nat → Option XR} : ∀ (ps : List (Int × Int)), (∀ q ∈ ps, -2147483648 ≤ q.1 ∧ q.1 < 2147483648) →
    xsw x (ps.map fun q => (q.1, xtg pc q.2)) (xtg pc d) J = J (xtg pc (Op.lookupswitch.offset ps d x.toInt)) := by
  intro ps
  induction ps with
  | nil => intro _; rfl
  | cons q ps ih =>
    intro h
    obtain ⟨a, o⟩ := q
    have h0 := h (a, o) List.mem_cons_self
    have hb := iI_is (x := x) (z := a) h0.1 h0.2
    show (if x = iI a then J (xtg pc o) else xsw x (ps.map fun q => (q.1, xtg pc q.2)) (xtg pc d) J) = _
    rw [Op.lookupswitch.offset_cons]
    by_cases e : x = iI a
    · rw [if_pos e, if_pos (hb.mp e).symm]
    · rw [if_neg e, if_neg (fun q => e (hb.mpr q.symm)), ih (fun q hq => h q (List.mem_cons_of_mem _ hq))]
theorem xoff_ok {pc : Nat} {d k : Int} (hd : xjok pc d = true) : ∀ (ps : List (Int × Int)), (∀ q ∈ ps, xjok pc q.2 = true) → xjok pc (Op.lookupswitch.offset ps d k) = true := by
  intro ps
  induction ps with
  | nil => intro _; exact hd
  | cons q ps ih =>
    intro h
    obtain ⟨a, o⟩ := q
    rw [Op.lookupswitch.offset_cons]
    split
    · exact h (a, o) List.mem_cons_self
    · exact ih (fun q hq => h q (List.mem_cons_of_mem _ hq))
theorem xcal_spec {c id lv idx d lw : Nat} (h : xcal c id lv idx = some (d, lw)) : xcalL c idx = some d ∧ (xrkok id d = true → xrnk d lw < xrnk id lv) := by
  unfold xcal at h
  cases hc : xcalL c idx with
  | none => rw [hc] at h; cases h
  | some d' =>
    rw [hc] at h
    dsimp only at h
    cases h1 : d' == xBelow with
    | true =>
      have e1 : d' = xBelow := eq_of_beq h1
      rw [h1] at h
      cases h2 : id == xBelow with
      | true =>
        have e2 : id = xBelow := eq_of_beq h2
        rw [h2] at h
        cases lv with
        | zero => cases h
        | succ k =>
          cases h
          refine ⟨by rw [e1], fun _ => ?_⟩
          rw [e2]
          show xdep xBelow + lw < xdep xBelow + (lw + 1)
          omega
      | false =>
        rw [h2] at h
        cases h
        refine ⟨by rw [e1], fun hr => ?_⟩
        have hr : Nat.blt (xdep xBelow + 13) (xdep id) = true := by
          unfold xrkok at hr
          rw [h2] at hr
          exact hr
        have hr' : xdep xBelow + 13 < xdep id := Nat.le_of_ble_eq_true hr
        have e3 : xrnk id lv = xdep id := by unfold xrnk; rw [h2]; rfl
        rw [e3]
        exact hr'
    | false =>
      rw [h1] at h
      cases h
      refine ⟨rfl, fun hr => ?_⟩
      unfold xrkok at hr
      rw [h1] at hr
      cases h2 : id == xBelow with
      | true => rw [h2] at hr; cases hr
      | false =>
        rw [h2] at hr
        have hr' : xdep d < xdep id := Nat.le_of_ble_eq_true hr
        have e3 : xrnk id lv = xdep id := by unfold xrnk; rw [h2]; rfl
        have e4 : xrnk d 0 = xdep d := by unfold xrnk; rw [h1]; rfl
        omega
def xpsh (ty : Nat) (v : Value) (rest : List Value) : List Value := match ty with
  | 0 => rest
  | _ => v :: rest
theorem xback_inv {ty : Nat} {o : Option XR} {rest : List Value} {k : List Value → XW → Option XR} {x : XR} (h : xback ty o rest k = some x) : ∃ y : XR, o = some y ∧ k (xpsh ty y.1 rest) y.2 = some x := by
  match ty, h with
  | 0, h =>
    cases o with
    | none => cases h
    | some y => exact ⟨y, rfl, h⟩
  | 1, h =>
    cases o with
    | none => cases h
    | some y =>
      obtain ⟨v, u⟩ := y
      cases v <;> first | exact ⟨_, rfl, h⟩ | cases h
  | 2, h =>
    cases o with
    | none => cases h
    | some y =>
      obtain ⟨v, u⟩ := y
      cases v <;> first | exact ⟨_, rfl, h⟩ | cases h
  | n + 3, h =>
    cases o with
    | none => cases h
    | some y => exact ⟨y, rfl, (xg_some h).2⟩
theorem xcall_inv {C : Nat → Nat → List Value → XW → Option XR} {d : Nat × Nat} {fit : Bool} {As rest : List Value} {b : XB} {w : XW} {k : List Value → XB → XW → Option XR} {x : XR} (h : xcall C d fit As rest b w k = some x) :
    fit = true ∧ xcat rest ≤ 8 ∧ (xbud d.1).1 ≤ b.1 ∧ (xbud d.1).2 ≤ b.2 ∧ ∃ y : XR, C d.1 d.2 As w = some y ∧ k (xpsh (xrty d.1) y.1 rest) (b.1 - (xbud d.1).1, b.2 - (xbud d.1).2) y.2 = some x := by
  unfold xcall at h
  obtain ⟨h1, h⟩ := xg_some h
  split at h
  · rename_i hb
    obtain ⟨h2, h⟩ := xg_some h
    obtain ⟨y, h3, h4⟩ := xback_inv h
    rw [hb]
    exact ⟨h1, Nat.le_of_ble_eq_true h2, Nat.zero_le _, Nat.zero_le _, y, h3, h4⟩
  · rename_i mc ms hne hb
    obtain ⟨h2, h⟩ := xg_some h
    simp only [Bool.and_eq_true] at h2
    obtain ⟨y, h3, h4⟩ := xback_inv h
    rw [hb]
    exact ⟨h1, Nat.le_of_ble_eq_true h2.2, Nat.le_of_ble_eq_true h2.1.1, Nat.le_of_ble_eq_true h2.1.2, y, h3, h4⟩
theorem xpsh_map {ad sad : Nat → Nat} (ty : Nat) (v : Value) (rest : List Value) : (xpsh ty v rest).map (xv ad sad) = (xov ty ad sad v).toList ++ rest.map (xv ad sad) := by
  match ty with
  | 0 => rfl
  | n + 1 => rfl
theorem xpsh_vs {w : XW} {ty : Nat} {v : Value} {rest : List Value} (hv : xvs w v) (hs : ∀ u ∈ rest, xvs w u) : ∀ u ∈ xpsh ty v rest, xvs w u := by
  match ty with
  | 0 => exact hs
  | n + 1 => exact xs_cons hv hs
def xHC (l : Launch) (D : va_G) (id lv : Nat) (C : Nat → Nat → List Value → XW → Option XR) : Prop := ∀ (d lw : Nat) (As : List Value) (w : XW) (y : XR), d < xLaw → xrnk d lw < xrnk id lv → xVR w → (∀ v ∈ As, xvs w v) → xcat As ≤ xmaxL d → C d lw As w = some y → xMet l D d lw y As w
theorem xkok_inv {id c idx kd d : Nat} (h : xkok id c idx kd = true) (hc : xcalL c idx = some d) : xkd d = kd ∧ xrkok id d = true ∧ d < xLaw := by
  unfold xkok at h
  rw [hc] at h
  simp only [Bool.and_eq_true, beq_iff_eq] at h
  exact ⟨h.1.1, h.1.2, Nat.le_of_ble_eq_true h.2⟩
theorem xnat : xmem (.native arraycopyName) = true := by decide +kernel
theorem xcst : xmem (.static arraycopyName) = true := by decide +kernel
theorem xsys : xmem (.initialized "java/lang/System") = true := by decide +kernel
theorem xoin : xmem (.instanceMethod objectInit) = true := by decide +kernel
theorem xoco : xmem (.code objectInit ⟨#[0xb1]⟩ 1 none) = true := by decide +kernel
theorem xin0a : ∀ d, d < 172 → xkd d = 2 → xnar d = 0 := by decide +kernel
theorem xin0 {d : Nat} (h : d < xLaw) (hk : xkd d = 2) : xnar d = 0 := xin0a d h hk
section XSND
variable {p : Program} {l : Launch} {e : Env} {R : Room} {s : State} {m : MethodId} {args : Array Value} {below : List Frame} {meth : Method} {c : Code} {Q : State → Prop} {D : va_G} {sad ad0 : Nat → Nat} {cA0 : Nat → ClassId} {n0 : Nat} {sc : Nat × (Nat → Int32)} {A : Nat → Prop} {id lv mc ms : Nat} {x : XR}
variable {J : Nat → XL → List Value → XB → XW → Option XR} {C : Nat → Nat → List Value → XW → Option XR} {k : XK} {pc : Nat}
theorem xi_tableswitch {d lo hi : Int} {os : Array Int} (cx : xCx p R s m args meth c D sad sc A id lv mc ms) (h1 : xci1 id pc (.tableswitch d lo hi os) = true) (h2 : xci2 id pc (.tableswitch d lo hi os) = true)
    (HJ : ∀ t, xGo (fun H locs cells slots g => W p l e R s m args below meth c H locs cells slots Q g) (xI D ad0 cA0 n0 sc A s) m sad (xmaxL id) mc ms x t (J t)) :
    xGo (fun H locs cells slots g => W p l e R s m args below meth c H locs cells slots Q g) (xI D ad0 cA0 n0 sc A s) m sad (xmaxL id) mc ms x pc (xins J C (xown id) id lv pc (.tableswitch d lo hi os) k) := by
  intro ad cA w H locs cells slots ls L st b hI hL hs hc hb h
  obtain ⟨hx, hcc, hr, hml, hown, hts, hlk, hK, hin, hst, hA, hRf, hRl, hRc, hRs, hN⟩ := cx
  have hd : ∃ len, decode (xby id) pc = .ok (.tableswitch d lo hi os, len) := by
    unfold xci1 at h1
    dsimp only at h1
    split at h1
    · rename_i j len hj
      exact ⟨len, by rw [hj, of_decide_eq_true h1]⟩
    · cases h1
  obtain ⟨len, hd⟩ := hd
  simp only [xci2, Bool.and_eq_true, decide_eq_true_eq] at h2
  obtain ⟨⟨⟨⟨hjd, hjo⟩, hhi⟩, hlo⟩, hhi2⟩ := h2
  have hsz : (os.toList.length : Int) = os.size := by simp
  dsimp only [xins] at h
  split at h
  · rename_i z st'
    rw [xsw_tab os.toList lo hlo (by omega)] at h
    by_cases q : lo ≤ z.toInt
    · rw [if_pos q] at h
      cases ho : os.toList[(z.toInt - lo).toNat]? with
      | none =>
        rw [ho] at h
        have hge : os.toList.length ≤ (z.toInt - lo).toNat := List.getElem?_eq_none_iff.mp ho
        refine lv_tableOut hx hcc hd (Or.inr (by omega)) (tgt := xtg pc d) (Int.toNat_of_nonneg (of_decide_eq_true hjd)).symm ?_
        exact HJ _ ad cA w H locs cells slots ls L st' b hI hL (xs_tl hs) hc hb h
      | some o =>
        rw [ho] at h
        have hlt : (z.toInt - lo).toNat < os.toList.length := (List.getElem?_eq_some_iff.mp ho).1
        have hjo' : xjok pc o = true := List.all_eq_true.mp hjo o (List.mem_of_getElem? ho)
        refine lv_tableIn hx hcc hd (by omega) (by omega) (off := o) (by rw [← Array.getElem?_toList]; exact ho) (tgt := xtg pc o) (Int.toNat_of_nonneg (of_decide_eq_true hjo')).symm ?_
        exact HJ _ ad cA w H locs cells slots ls L st' b hI hL (xs_tl hs) hc hb h
    · rw [if_neg q] at h
      refine lv_tableOut hx hcc hd (Or.inl (by omega)) (tgt := xtg pc d) (Int.toNat_of_nonneg (of_decide_eq_true hjd)).symm ?_
      exact HJ _ ad cA w H locs cells slots ls L st' b hI hL (xs_tl hs) hc hb h
  · cases h
theorem xi_lookupswitch {d : Int} {ps : Array (Int × Int)} (cx : xCx p R s m args meth c D sad sc A id lv mc ms) (h1 : xci1 id pc (.lookupswitch d ps) = true) (h2 : xci2 id pc (.lookupswitch d ps) = true)
    (HJ : ∀ t, xGo (fun H locs cells slots g => W p l e R s m args below meth c H locs cells slots Q g) (xI D ad0 cA0 n0 sc A s) m sad (xmaxL id) mc ms x t (J t)) :
    xGo (fun H locs cells slots g => W p l e R s m args below meth c H locs cells slots Q g) (xI D ad0 cA0 n0 sc A s) m sad (xmaxL id) mc ms x pc (xins J C (xown id) id lv pc (.lookupswitch d ps) k) := by
  intro ad cA w H locs cells slots ls L st b hI hL hs hc hb h
  obtain ⟨hx, hcc, hr, hml, hown, hts, hlk, hK, hin, hst, hA, hRf, hRl, hRc, hRs, hN⟩ := cx
  have hd : ∃ len, decode (xby id) pc = .ok (.lookupswitch d ps, len) := by
    unfold xci1 at h1
    dsimp only at h1
    split at h1
    · rename_i j len hj
      exact ⟨len, by rw [hj, of_decide_eq_true h1]⟩
    · cases h1
  obtain ⟨len, hd⟩ := hd
  simp only [xci2, Bool.and_eq_true] at h2
  obtain ⟨⟨hjd, hall⟩, hsrt⟩ := h2
  have hall' : ∀ q ∈ ps.toList, (xjok pc q.2 = true ∧ -2147483648 ≤ q.1) ∧ q.1 < 2147483648 := fun q hq => by
    have := List.all_eq_true.mp hall q hq
    simp only [Bool.and_eq_true, decide_eq_true_eq] at this
    exact this
  dsimp only [xins] at h
  split at h
  · rename_i z st'
    rw [xsw_look ps.toList (fun q hq => ⟨(hall' q hq).1.2, (hall' q hq).2⟩)] at h
    have hjo := xoff_ok (k := z.toInt) hjd ps.toList (fun q hq => (hall' q hq).1.1)
    refine lv_lookup hx hcc hd hsrt rfl (tgt := xtg pc (Op.lookupswitch.offset ps.toList d z.toInt)) (Int.toNat_of_nonneg (of_decide_eq_true hjo)).symm ?_
    exact HJ _ ad cA w H locs cells slots ls L st' b hI hL (xs_tl hs) hc hb h
  · cases h
theorem xi_invokevirtual {idx : Nat} (cx : xCx p R s m args meth c D sad sc A id lv mc ms) (h1 : xci1 id pc (.invokevirtual idx) = true) (h2 : xci2 id pc (.invokevirtual idx) = true) (HC : xHC l D id lv C)
    (Hk : xGo (fun H locs cells slots g => W p l e R s m args below meth c H locs cells slots Q g) (xI D ad0 cA0 n0 sc A s) m sad (xmaxL id) mc ms x (pc + 3) k) :
    xGo (fun H locs cells slots g => W p l e R s m args below meth c H locs cells slots Q g) (xI D ad0 cA0 n0 sc A s) m sad (xmaxL id) mc ms x pc (xins J C (xown id) id lv pc (.invokevirtual idx) k) := by
  intro ad cA w H locs cells slots ls L st b hI hL hs hc hb h
  have hd := xdec h1 rfl
  dsimp only [xins] at h
  split at h
  · rename_i d hcal
    obtain ⟨d, lw⟩ := d
    obtain ⟨hcl, hrk⟩ := xcal_spec hcal
    obtain ⟨hkd, hrk2, hdl⟩ := xkok_inv h2 hcl
    have hrk := hrk hrk2
    split at h
    · rename_i v rest hdrop
      obtain ⟨hg, h⟩ := xg_some h
      obtain ⟨hfit, hcat, hb1, hb2, y, hC, hkk⟩ := xcall_inv h
      clear h
      dsimp only at hdrop hfit hcat hb1 hb2 hC hkk hg
      have hst : st = ((st.take (xnar d)).reverse).reverse ++ v :: rest := by rw [List.reverse_reverse, ← hdrop, List.take_append_drop]
      generalize hAs : (st.take (xnar d)).reverse = As at hst hfit hC
      have hlen : As.length = xnar d := by
        rw [← hAs, List.length_reverse, List.length_take]
        have := congrArg List.length hdrop
        rw [List.length_drop, List.length_cons] at this
        omega
      subst hst
      have hsr : ∀ u ∈ v :: rest, xvs w u := fun u hu => hs u (List.mem_append_right _ hu)
      have hsa : ∀ u ∈ As, xvs w u := fun u hu => hs u (List.mem_append_left _ (List.mem_reverse.mpr hu))
      cases v with
      | ref a =>
        have hca : xcls a = xown d := eq_of_beq hg
        have ha : a < xn w := xs_hd hsr
        have hmx : 0 < xmaxL d := (xk0 hdl hkd).2.2.2
        have hfit' : xcat As ≤ xmaxL d - 1 := Nat.le_of_ble_eq_true hfit
        have hcatA : xcat (.ref a :: As) ≤ xmaxL d := by
          have : xcat (.ref a :: As) = 1 + xcat As := by simp [xcat, Value.category]
          omega
        have hM := HC d lw (.ref a :: As) w y hdl hrk hI.2.2.2.1 (xs_cons ha hsa) hcatA hC
        have cx' := cx
        obtain ⟨hx, hcc, hr, hml, hown, hts, hlk, hK, hin, hst, hA, hRf, hRl, hRc, hRs, hN⟩ := cx
        refine xback_W (d := d) (y := y) (rest := rest) hA hI (xrunV cx' hI hd hcl hdl hkd hrk hM hca ha hlen hL.1 hcat ⟨by omega, by omega⟩) (fun ad' cA' H1 locs1 hI1 had hn hvs => ?_)
        rw [xs_map (ad' := ad') had (xs_tl hsr), ← xpsh_map]
        exact Hk ad' cA' y.2 H1 locs1 (cells + (xbud d).1) (slots + (xbud d).2) ls L (xpsh (xrty d) y.1 rest) (b.1 - (xbud d).1, b.2 - (xbud d).2) hI1 (hL.grow hn had) (xpsh_vs hvs (xs_grow hn (xs_tl hsr))) (by show cells + (xbud d).1 + (b.1 - (xbud d).1) = mc; omega) (by show slots + (xbud d).2 + (b.2 - (xbud d).2) = ms; omega) hkk
      | _ => cases hg
    · cases h
  · cases h
theorem xi_invokestatic {idx : Nat} (cx : xCx p R s m args meth c D sad sc A id lv mc ms) (h1 : xci1 id pc (.invokestatic idx) = true) (h2 : xci2 id pc (.invokestatic idx) = true) (HC : xHC l D id lv C)
    (Hk : xGo (fun H locs cells slots g => W p l e R s m args below meth c H locs cells slots Q g) (xI D ad0 cA0 n0 sc A s) m sad (xmaxL id) mc ms x (pc + 3) k) :
    xGo (fun H locs cells slots g => W p l e R s m args below meth c H locs cells slots Q g) (xI D ad0 cA0 n0 sc A s) m sad (xmaxL id) mc ms x pc (xins J C (xown id) id lv pc (.invokestatic idx) k) := by
  intro ad cA w H locs cells slots ls L st b hI hL hs hc hb h
  have hd := xdec h1 rfl
  dsimp only [xins] at h
  split at h
  · rename_i hcp
    split at h
    · rename_i n dp q sp a st'
      obtain ⟨hcat, h⟩ := xg_some h
      obtain ⟨hg, h⟩ := xg_some h
      unfold xcok at hg
      simp only [Bool.and_eq_true, decide_eq_true_eq, beq_iff_eq] at hg
      obtain ⟨⟨⟨⟨⟨⟨hka, hkq⟩, hsp⟩, hdp⟩, hn⟩, hna⟩, hnq⟩ := hg
      subst hsp
      subst hdp
      have hna : n.toNatClampNeg ≤ xln w a := Nat.le_of_ble_eq_true hna
      have hnq : n.toNatClampNeg ≤ xln w q := Nat.le_of_ble_eq_true hnq
      have hcat : xcat st' ≤ 8 := Nat.le_of_ble_eq_true hcat
      simp only [xci2, hcp, Bool.and_eq_true] at h2
      have hdep : 0 < xdep id := Nat.le_of_ble_eq_true h2.1
      have hql : q < xn w := xs_hd (xs_tl (xs_tl hs))
      have hal : a < xn w := xs_hd (xs_tl (xs_tl (xs_tl (xs_tl hs))))
      have hsr := xs_tl (xs_tl (xs_tl (xs_tl (xs_tl hs))))
      obtain ⟨hx, hcc, hr, hml, hown, hts, hlk, hK, hin, hst, hA, hRf, hRl, hRc, hRs, hN⟩ := cx
      have hArA := hI.2.2.1 a hal (by rw [hka]; decide)
      have hArQ := hI.2.2.1 q hql (by rw [hkq]; decide)
      rw [hka] at hArA
      rw [hkq] at hArQ
      have hK2 : va_K D vwCl [(cA a, .int), (cA q, .int)] s := ⟨hK.1, fun j z hz => by
        match j, hz with
        | 0, hz => cases hz; exact hArA
        | 1, hz => cases hz; exact hArQ
        | j + 2, hz => cases hz⟩
      have hrk1 : 1 ≤ xrnk id lv := by unfold xrnk; omega
      have hE : xcell ad cA (xpG w q (va_cpy (xIA w a) (xIA w q) 0 0 n.toNatClampNeg)) q = .inl (cA q, xln w q, .inl (va_cpy (xIA w a) (xIA w q) (0 : Int32).toNatClampNeg (0 : Int32).toNatClampNeg n.toNatClampNeg)) := by
        rw [xcell_i hkq]
        have e : xIA (xpG w q (va_cpy (xIA w a) (xIA w q) 0 0 n.toNatClampNeg)) q = va_cpy (xIA w a) (xIA w q) 0 0 n.toNatClampNeg := if_pos rfl
        rw [e]
        rfl
      have hn' : ¬ n < 0 := fun z => by
        rw [Int32.lt_iff_toInt_lt] at z
        rw [Int32.le_iff_toInt_le] at hn
        omega
      refine va_copyi (D := D) hx hcc (by rw [hml]; exact hL.1.symm) hown (hts _ (xmem_in h2.2)) (hts _ (xmem_in xnat)) (hts _ (xmem_in xcst)) (hts _ (xmem_in xsys)) hK2 hI.1 hI.2.1 hI.2.2.2.2.1 a q 0 1 (by rw [xws_at hal, xcell_i hka]) (by rw [xws_at hql, xcell_i hkq]) rfl rfl rfl (by decide) (by decide) hn' (by simpa using hna) (by simpa using hnq) (fun i _ => rfl) (by omega)
        (by rw [xv_cats]; have e : nativeFrameWords "java/lang/System" "arraycopy" 5 = 7 := by decide
            omega) hd (fun H1 locs1 hP1 hD1 hS1 => ?_)
      exact Hk ad cA (xpG w q (va_cpy (xIA w a) (xIA w q) 0 0 n.toNatClampNeg)) H1 locs1 cells slots ls L st' b (hI.upd (a := q) rfl rfl (fun z hz => xcell_pG hz) hE hI.2.2.2.1 hP1 hD1 hS1) (hL.grow (Nat.le_refl _) (fun _ _ => rfl)) (xs_grow (Nat.le_refl _) hsr) hc hb (xg_some h).2
    · cases h
  · rename_i hcp
    split at h
    · rename_i d hcal
      obtain ⟨d, lw⟩ := d
      obtain ⟨hcl, hrk⟩ := xcal_spec hcal
      simp only [xci2, hcp] at h2
      obtain ⟨hkd, hrk2, hdl⟩ := xkok_inv h2 hcl
      have hrk := hrk hrk2
      obtain ⟨hfit, hcat, hb1, hb2, y, hC, hkk⟩ := xcall_inv h
      clear h
      dsimp only at hfit hcat hb1 hb2 hC hkk
      simp only [Bool.and_eq_true] at hfit
      have hst : st = ((st.take (xnar d)).reverse).reverse ++ st.drop (xnar d) := by rw [List.reverse_reverse, List.take_append_drop]
      have hnl : xnar d ≤ st.length := Nat.le_of_ble_eq_true hfit.1
      have hlen0 : ((st.take (xnar d)).reverse).length = xnar d := by rw [List.length_reverse, List.length_take]; omega
      have hf2 := Nat.le_of_ble_eq_true hfit.2
      generalize (st.take (xnar d)).reverse = As at hst hC hlen0 hf2
      generalize st.drop (xnar d) = rest at hst hcat hkk
      subst hst
      have hsr : ∀ u ∈ rest, xvs w u := fun u hu => hs u (List.mem_append_right _ hu)
      have hsa : ∀ u ∈ As, xvs w u := fun u hu => hs u (List.mem_append_left _ (List.mem_reverse.mpr hu))
      have hM := HC d lw As w y hdl hrk hI.2.2.2.1 hsa hf2 hC
      have cx' := cx
      obtain ⟨hx, hcc, hr, hml, hown, hts, hlk, hK, hin, hst, hA, hRf, hRl, hRc, hRs, hN⟩ := cx
      refine xback_W (d := d) (y := y) (rest := rest) hA hI (xrunS cx' hI hd hcl hdl hkd hrk hM hlen0 hL.1 hcat ⟨by omega, by omega⟩) (fun ad' cA' H1 locs1 hI1 had hn hvs => ?_)
      rw [xs_map (ad' := ad') had hsr, ← xpsh_map]
      exact Hk ad' cA' y.2 H1 locs1 (cells + (xbud d).1) (slots + (xbud d).2) ls L (xpsh (xrty d) y.1 rest) (b.1 - (xbud d).1, b.2 - (xbud d).2) hI1 (hL.grow hn had) (xpsh_vs hvs (xs_grow hn hsr)) (by show cells + (xbud d).1 + (b.1 - (xbud d).1) = mc; omega) (by show slots + (xbud d).2 + (b.2 - (xbud d).2) = ms; omega) hkk
    · cases h
theorem xi_invokespecial {idx : Nat} (cx : xCx p R s m args meth c D sad sc A id lv mc ms) (h1 : xci1 id pc (.invokespecial idx) = true) (h2 : xci2 id pc (.invokespecial idx) = true) (HC : xHC l D id lv C)
    (Hk : xGo (fun H locs cells slots g => W p l e R s m args below meth c H locs cells slots Q g) (xI D ad0 cA0 n0 sc A s) m sad (xmaxL id) mc ms x (pc + 3) k) :
    xGo (fun H locs cells slots g => W p l e R s m args below meth c H locs cells slots Q g) (xI D ad0 cA0 n0 sc A s) m sad (xmaxL id) mc ms x pc (xins J C (xown id) id lv pc (.invokespecial idx) k) := by
  intro ad cA w H locs cells slots ls L st b hI hL hs hc hb h
  have hd := xdec h1 rfl
  dsimp only [xins] at h
  split at h
  · rename_i hob
    split at h
    · rename_i a st'
      obtain ⟨hcat, h⟩ := xg_some h
      have hcat : xcat st' ≤ 8 := Nat.le_of_ble_eq_true hcat
      simp only [xci2, hob, Bool.and_eq_true] at h2
      have hdep : 0 < xdep id := Nat.le_of_ble_eq_true h2.1
      obtain ⟨hx, hcc, hr, hml, hown, hts, hlk, hK, hin, hst, hA, hRf, hRl, hRc, hRs, hN⟩ := cx
      have hrk1 : 1 ≤ xrnk id lv := by unfold xrnk; omega
      refine W.objInit hx hcc hown (hts _ (xmem_in h2.2)) (hts _ (xmem_in xoin)) (hts _ (xmem_in xoco)) rfl (by rw [hml]; exact hL.1) rfl hd (by omega) ?_ ?_
      · show 2 * 0 + ((st'.map (xv ad sad)).map fun v => v.category).sum + 12 ≤ R.locals
        rw [xv_cats]
        omega
      · exact Hk ad cA w H locs cells slots ls L st' b hI hL (xs_tl hs) hc hb h
    · cases h
  · rename_i hob
    split at h
    · rename_i d hcal
      obtain ⟨d, lw⟩ := d
      obtain ⟨hcl, hrk⟩ := xcal_spec hcal
      simp only [xci2, hob] at h2
      obtain ⟨hkd, hrk2, hdl⟩ := xkok_inv h2 hcl
      have hrk := hrk hrk2
      split at h
      · rename_i v rest
        obtain ⟨hg, h⟩ := xg_some h
        obtain ⟨hfit, hcat, hb1, hb2, y, hC, hkk⟩ := xcall_inv h
        clear h
        dsimp only at hcat hb1 hb2 hC hkk hg
        cases v with
        | ref a =>
          have ha : a < xn w := xs_hd hs
          have hmx : 0 < xmaxL d := (xk2 hdl hkd).2.2.2.1
          have hM := HC d lw [.ref a] w y hdl hrk hI.2.2.2.1 (xs_cons ha (fun _ z => by cases z)) (by show 1 ≤ xmaxL d; omega) hC
          have cx' := cx
          obtain ⟨hx, hcc, hr, hml, hown, hts, hlk, hK, hin, hst, hA, hRf, hRl, hRc, hRs, hN⟩ := cx
          refine xback_W (d := d) (y := y) (rest := rest) hA hI (xrunI cx' hI hd hcl hdl hkd hrk hM (xin0 hdl hkd) hL.1 hcat ⟨by omega, by omega⟩) (fun ad' cA' H1 locs1 hI1 had hn hvs => ?_)
          rw [xs_map (ad' := ad') had (xs_tl hs), ← xpsh_map]
          exact Hk ad' cA' y.2 H1 locs1 (cells + (xbud d).1) (slots + (xbud d).2) ls L (xpsh (xrty d) y.1 rest) (b.1 - (xbud d).1, b.2 - (xbud d).2) hI1 (hL.grow hn had) (xpsh_vs hvs (xs_grow hn (xs_tl hs))) (by show cells + (xbud d).1 + (b.1 - (xbud d).1) = mc; omega) (by show slots + (xbud d).2 + (b.2 - (xbud d).2) = ms; omega) hkk
        | _ => cases hg
      · cases h
    · cases h
end XSND
