/-! ===== calls: contracts ===== -/
def xPc (D : va_G) (sad ad : Nat → Nat) (cA : Nat → ClassId) (w : XW) (sz : Nat) (As : List Value) : Array Value → State → Prop := va_Pc (As.map (xv ad sad)) (fun U => U.heap.size = sz ∧ va_P D vwCl (xws ad cA w) U.heap ∧ va_K D vwCl [] U ∧ xAr cA w U ∧ va_D (fun _ => True) (xws ad cA w) ∧ xSt sad (xSc w) (va_A (xws ad cA w) sz) U U.heap ∧ xNs U)
def xov (rt : Nat) (ad sad : Nat → Nat) (r : Value) : Option Value := match rt with
  | 0 => none
  | _ => some (xv ad sad r)
def xRes (D : va_G) (sad ad : Nat → Nat) (cA : Nat → ClassId) (w : XW) (sz id : Nat) (x : XR) : Array Value → State → Outcome → State → Prop := fun _ st oc t =>
  (∃ (ad' : Nat → Nat) (cA' : Nat → ClassId), oc = .returned (xov (xrty id) ad' sad x.1) ∧ va_P D vwCl (xws ad' cA' x.2) t.heap ∧ xAr cA' x.2 t ∧ va_D (va_A (xws ad cA w) sz) (xws ad' cA' x.2) ∧ xVR x.2 ∧ xSc x.2 = xSc w ∧ xn w ≤ xn x.2 ∧ (∀ a, a < xn w → ad' a = ad a ∧ cA' a = cA a) ∧ xvs x.2 x.1) ∧ va_F (va_A (xws ad cA w) sz) st t
def xrm (id lv : Nat) : Room := { frames := xrnk id lv, cells := (xbud id).1, slots := (xbud id).2, locals := 64 * xrnk id lv }
def xwd (id : Nat) : List Cond := .code (xy id) (xby id) (xmaxL id) (xret id) :: xtb
def xMet (l : Launch) (D : va_G) (id lv : Nat) (x : XR) (As : List Value) (w : XW) : Prop := ∀ (sad ad : Nat → Nat) (cA : Nat → ClassId) (sz : Nat), Met l (xy id) (xwd id) (xrm id lv) (xPc D sad ad cA w sz As) (xRes D sad ad cA w sz id x) (xbud id).1 (xbud id).2 (va_A (xws ad cA w) sz)
theorem xtb_good {w : Cond} (h : w ∈ xtb) : (w.onTables && w.keeps) = true ∨ ∃ ty, w = .arrayClass ty := good_of_word (List.mem_filter.mp h).2
theorem xgood {ws : List Cond} (h : ∀ w ∈ ws, w ∈ xtb) : GoodIn xtb ws := fun w hw => ⟨h w hw, xtb_good (h w hw)⟩
theorem xwd_in {d : Nat} (h : d < xLaw) : ∀ w ∈ xwd d, w ∈ xtb := by
  intro w hw
  rcases List.mem_cons.mp hw with e | e
  · rw [e]
    exact xpi (xpl xt_code h) rfl
  · exact e
section XCALL
variable {p : Program} {l : Launch} {e : Env} {R : Room} {s : State} {m : MethodId} {args : Array Value} {below : List Frame} {meth : Method} {c : Code} {Q : State → Prop} {D : va_G} {sad ad0 : Nat → Nat} {cA0 : Nat → ClassId} {n0 : Nat} {sc : Nat × (Nat → Int32)} {A : Nat → Prop} {id lv mc ms : Nat} {x : XR}
variable {ad : Nat → Nat} {cA : Nat → ClassId} {w : XW} {H : Heap} {locs : List Loc} {cells slots pc : Nat} {ls : Array Slot}
theorem xfree (hI : xI D ad0 cA0 n0 sc A s ad cA w H locs) (hA : ∀ q, s.heap.size ≤ q → A q) : ∀ q, va_A (xws ad cA w) H.size q → A q := by
  intro q h
  rcases h with ⟨k, e, h⟩ | h
  · exact hI.2.1.2 k (q, e) h
  · exact hA q (Nat.le_trans hI.2.2.2.2.1.1 h)
theorem xpre (cx : xCx p R s m args meth c D sad sc A id lv mc ms) (hI : xI D ad0 cA0 n0 sc A s ad cA w H locs) {U : State} (hU : U.heap = H) (hW : s.WarmedH U.vm) (As : List Value) : xPc D sad ad cA w H.size As (As.map (xv ad sad)).toArray U := by
  obtain ⟨hx, hcc, hr, hml, hown, hts, hlk, hK, hin, hst, hA, hRf, hRl, hRc, hRs, hN⟩ := cx
  refine ⟨rfl, by rw [hU], by rw [hU]; exact hI.1, va_K.moved hW.alike hK, hI.2.2.1.moved hW.alike, hI.2.1.weaken (fun _ _ _ _ => trivial), ?_, hN.warm hW⟩
  rw [hU, hI.2.2.2.2.2.1]
  exact ((hst.kept (fun a h1 h2 => hI.2.2.2.2.1.2.1 a h1 h2)).moved hW.alike).narrow (xfree hI hA)
theorem xblind {sz : Nat} {As : List Value} : FrameBlind (xPc D sad ad cA w sz As) := by
  intro a U g mk q
  obtain ⟨q0, q1, qP, qK, qA, qD, qS, qN⟩ := q
  exact ⟨q0, q1, qP, va_K.moved (u := U) (U := U.calling g mk a) (Vm.Alike.refl U.vm) qK, qA.moved (u := U) (U := U.calling g mk a) (Vm.Alike.refl U.vm), qD, qS.moved (u := U) (U := U.calling g mk a) (Vm.Alike.refl U.vm), xNs.same (s := U) (U := U.calling g mk a) rfl qN⟩
/-- behind a call -/
theorem xback_W {mc' ms' d : Nat} {y : XR} {st0 rest : List Value} {aa : Array Value} (hA : ∀ q, s.heap.size ≤ q → A q) (hI : xI D ad0 cA0 n0 sc A s ad cA w H locs)
    (hr : va_Run p l e R s m args below meth c H locs cells slots mc' ms' (F0 m pc ls st0) (rest.map (xv ad sad)) (xRes D sad ad cA w H.size d y aa) (va_A (xws ad cA w) H.size))
    (kk : ∀ (ad' : Nat → Nat) (cA' : Nat → ClassId) (H1 : Heap) (locs1 : List Loc), xI D ad0 cA0 n0 sc A s ad' cA' y.2 H1 locs1 → (∀ a, a < xn w → ad' a = ad a) → xn w ≤ xn y.2 → xvs y.2 y.1 →
      W p l e R s m args below meth c H1 locs1 (cells + mc') (slots + ms') Q (F0 m (pc + 3) ls ((xov (xrty d) ad' sad y.1).toList ++ rest.map (xv ad sad)))) :
    W p l e R s m args below meth c H locs cells slots Q (F0 m pc ls st0) := by
  have hF := xfree hI hA
  intro T hT X
  obtain ⟨v, st₀, t, T', L, h0, X', hL, e1, e2, ⟨⟨ad', cA', hv, hP, hAr, hD, hV, hSc, hn, hadd, hvs⟩, hz, hk⟩, st⟩ := hr T hT X
  cases hv
  rw [h0] at hz hk
  have hvm : s.vm.Alike t.vm := by rw [← e2]; exact X'.warmed.alike
  obtain ⟨t2, a1, b1⟩ := kk ad' cA' T'.heap (locs ++ L) ⟨by rw [e1]; exact hP, hD.weaken (fun _ q _ h => hF q.1 h), hAr.moved hvm.symm, hV,
    ⟨Nat.le_trans hI.2.2.2.2.1.1 (by rw [e1]; exact hz), fun q h1 h2 => by rw [e1, hk q (Nat.lt_of_lt_of_le h1 hI.2.2.2.2.1.1) (fun z => h2 (hF q z))]; exact hI.2.2.2.2.1.2.1 q h1 h2, fun q hq => by
      rcases List.mem_append.mp hq with h | h
      · exact hI.2.2.2.2.1.2.2 q h
      · exact hF _ (hL q h)⟩, by rw [hSc]; exact hI.2.2.2.2.2.1, Nat.le_trans hI.2.2.2.2.2.2.1 hn, fun a ha => by
      have h1 := hadd a (Nat.lt_of_lt_of_le ha hI.2.2.2.2.2.2.1)
      have h2 := hI.2.2.2.2.2.2.2 a ha
      exact ⟨h1.1.trans h2.1, h1.2.trans h2.2⟩⟩ (fun a ha => (hadd a ha).1) hn hvs T' rfl X'
  exact ⟨t2, st t2 a1, b1⟩
theorem xroom {d lw : Nat} (cx : xCx p R s m args meth c D sad sc A id lv mc ms) (hd : d < xLaw) (hrk : xrnk d lw < xrnk id lv) : (xrm d lw).frames + 1 ≤ R.frames ∧ 8 + (xmaxL d + 11) + (xrm d lw).locals ≤ R.locals := by
  obtain ⟨hx, hcc, hr, hml, hown, hts, hlk, hK, hin, hst, hA, hRf, hRl, hRc, hRs, hN⟩ := cx
  have h0 := xmet_ok hd
  simp only [xmetok, Bool.and_eq_true] at h0
  have hm : xmaxL d ≤ 45 := Nat.le_of_ble_eq_true h0.1.1.2
  refine ⟨?_, ?_⟩
  · show xrnk d lw + 1 ≤ R.frames
    omega
  · show 8 + (xmaxL d + 11) + 64 * xrnk d lw ≤ R.locals
    omega
theorem xhd {d : Nat} (hd : d < xLaw) : (xy d).cls ≠ "java/lang/invoke/MethodHandle" ∧ (xy d).cls ≠ "java/lang/invoke/VarHandle" ∧ (parseMethodDescriptor (xy d).desc).map (fun d => d.parameters.length) = some (xnar d) := by
  have h0 := xmet_ok hd
  simp only [xmetok, Bool.and_eq_true, decide_eq_true_eq] at h0
  exact ⟨h0.1.1.1.1.1.1.1, h0.1.1.1.1.1.1.2, h0.1.1.1.1.1.2⟩
theorem xini {d : Nat} (hd : d < xLaw) : Cond.initialized (xy d).cls ∈ xtb := by
  exact xpi (xpl xt_ini hd) rfl
theorem xcls_d {d : Nat} (hd : d < xLaw) : (xy d).cls = xcn (xown d) := by
  have h0 := xmet_ok hd
  simp only [xmetok, Bool.and_eq_true, decide_eq_true_eq] at h0
  exact h0.1.1.1.2
theorem xk0 {d : Nat} (hd : d < xLaw) (hk : xkd d = 0) : Cond.instanceMethod (xy d) ∈ xtb ∧ Cond.selects (xy d).cls (xy d) (xy d) ∈ xtb ∧ xown d < 8 ∧ 0 < xmaxL d := by
  have h0 := xmet_ok hd
  simp only [xmetok, hk, Bool.and_eq_true] at h0
  have h1 := h0.1.2
  have e3 := xpl xt_kd hd
  have e4 := xpl (g := fun d => Cond.selects (xy d).cls (xy d) (xy d)) xt_sel hd
  simp only [xw3, hk] at e3
  simp only [xs4, hk] at e4
  exact ⟨xpi e3 rfl, xpi e4 rfl, Nat.le_of_ble_eq_true h1.1, Nat.le_of_ble_eq_true h1.2⟩
theorem xk1 {d : Nat} (hd : d < xLaw) (hk : xkd d = 1) : Cond.static (xy d) ∈ xtb := by
  have e3 := xpl xt_kd hd
  simp only [xw3, hk] at e3
  exact xpi e3 rfl
theorem xk2 {d : Nat} (hd : d < xLaw) (hk : xkd d = 2) : Cond.instanceMethod (xy d) ∈ xtb ∧ (xy d).name = "<init>" ∧ xown d < 8 ∧ 0 < xmaxL d ∧ xret d = none := by
  have h0 := xmet_ok hd
  simp only [xmetok, hk, Bool.and_eq_true, decide_eq_true_eq] at h0
  have h1 := h0.1.2
  have e3 := xpl xt_kd hd
  simp only [xw3, hk] at e3
  exact ⟨xpi e3 rfl, h1.1.1.1, Nat.le_of_ble_eq_true h1.1.1.2, Nat.le_of_ble_eq_true h1.1.2, h1.2⟩
theorem xrunV {idx d lw a : Nat} {y : XR} {As rest : List Value} (cx : xCx p R s m args meth c D sad sc A id lv mc ms) (hI : xI D ad0 cA0 n0 sc A s ad cA w H locs) (hdec : decode (xby id) pc = .ok (.invokevirtual idx, 3)) (hlk : xcalL (xown id) idx = some d) (hd : d < xLaw) (hkd : xkd d = 0) (hrk : xrnk d lw < xrnk id lv)
    (hM : xMet l D d lw y (.ref a :: As) w) (hca : xcls a = xown d) (ha : a < xn w) (hn : As.length = xnar d) (hls : ls.size = xmaxL id) (hcat : xcat rest ≤ 8) (hb : cells + (xbud d).1 ≤ R.cells ∧ slots + (xbud d).2 ≤ R.slots) :
    va_Run p l e R s m args below meth c H locs cells slots (xbud d).1 (xbud d).2 (F0 m pc ls ((As.reverse ++ .ref a :: rest).map (xv ad sad))) (rest.map (xv ad sad)) (xRes D sad ad cA w H.size d y ((Value.ref a :: As).map (xv ad sad)).toArray) (va_A (xws ad cA w) H.size) := by
  have hroom := xroom cx hd hrk
  have hpre := fun U hU hW => xpre (U := U) cx hI hU hW (.ref a :: As)
  obtain ⟨hx, hcc, hr, hml, hown, hts, hlk2, hK, hin, hst, hA, hRf, hRl, hRc, hRs, hN⟩ := cx
  obtain ⟨k1, k2, k3, -⟩ := xk0 hd hkd
  have hak : xak a = 0 := (xak_cls (show xok a (xown d) = true by unfold xok; rw [hca]; exact beq_self_eq_true _) k3).2
  have hrecv : ∃ cellB : Cell, H[ad a]? = some cellB ∧ cellB.vm.isStatics = false ∧ s.vm.findClass (xy d).cls = some cellB.cls := by
    rw [xcls_d hd]
    exact va_recv hK hI.1 (ci := xown d) (q0 := a) (xcl_at k3) (by rw [xws_at ha, xcell_obj hca hak])
  have hst0 : (As.reverse ++ .ref a :: rest).map (xv ad sad) = (As.map (xv ad sad)).reverse ++ Value.ref (ad a) :: rest.map (xv ad sad) := by
    rw [List.map_append, List.map_reverse]; rfl
  have hcat' : 2 * (F0 m pc ls ((As.reverse ++ .ref a :: rest).map (xv ad sad))).monitorRoom + ((rest.map (xv ad sad)).map fun v => v.category).sum ≤ 8 := lv_room (by rw [xv_cats]; exact hcat)
  have hn' : (As.map (xv ad sad)).length = xnar d := by rw [List.length_map]; exact hn
  rcases xcal_ok hlk with hl | hl
  · exact va_runV (C := (xy d).cls) (Ts := xtb) (nL := xmaxL id) ⟨hx, hcc, hml, hown, hts⟩ (hM sad ad cA H.size)
      (cwV (xnar d) hts (xgood (fun w hw => by
        rcases List.mem_append.mp hw with q | q
        · simp only [List.mem_cons, List.not_mem_nil, or_false] at q
          rcases q with q | q | q | q
          · rw [q]; exact hl
          · rw [q]; exact k1
          · rw [q]; exact k2
          · rw [q]; exact xini hd
        · exact xwd_in hd w q)) rfl rfl rfl ⟨rfl, xhd hd⟩ hroom) ⟨xblind, hrecv, hpre⟩ rfl hn' hls hst0 hcat' hdec hb
  · exact va_runVN (C := (xy d).cls) (Ts := xtb) (nL := xmaxL id) ⟨hx, hcc, hml, hown, hts⟩ (hM sad ad cA H.size)
      ⟨va_cnB (xnar d) hts (xgood (xwd_in hd)) rfl rfl rfl (hN.at hl) (hts _ (xini hd)) (xhd hd) hroom, hts _ k1, hts _ k2⟩ ⟨xblind, hrecv, hpre⟩ rfl hn' hls hst0 hcat' hdec hb
theorem xrunS {idx d lw : Nat} {y : XR} {As rest : List Value} (cx : xCx p R s m args meth c D sad sc A id lv mc ms) (hI : xI D ad0 cA0 n0 sc A s ad cA w H locs) (hdec : decode (xby id) pc = .ok (.invokestatic idx, 3)) (hlk : xcalL (xown id) idx = some d) (hd : d < xLaw) (hkd : xkd d = 1) (hrk : xrnk d lw < xrnk id lv)
    (hM : xMet l D d lw y As w) (hn : As.length = xnar d) (hls : ls.size = xmaxL id) (hcat : xcat rest ≤ 8) (hb : cells + (xbud d).1 ≤ R.cells ∧ slots + (xbud d).2 ≤ R.slots) :
    va_Run p l e R s m args below meth c H locs cells slots (xbud d).1 (xbud d).2 (F0 m pc ls ((As.reverse ++ rest).map (xv ad sad))) (rest.map (xv ad sad)) (xRes D sad ad cA w H.size d y (As.map (xv ad sad)).toArray) (va_A (xws ad cA w) H.size) := by
  have hroom := xroom cx hd hrk
  have hpre := fun U hU hW => xpre (U := U) cx hI hU hW As
  obtain ⟨hx, hcc, hr, hml, hown, hts, hlk2, hK, hin, hst, hA, hRf, hRl, hRc, hRs, hN⟩ := cx
  have k1 := xk1 hd hkd
  have hst0 : (As.reverse ++ rest).map (xv ad sad) = (As.map (xv ad sad)).reverse ++ rest.map (xv ad sad) := by
    rw [List.map_append, List.map_reverse]
  have hcat' : 2 * (F0 m pc ls ((As.reverse ++ rest).map (xv ad sad))).monitorRoom + ((rest.map (xv ad sad)).map fun v => v.category).sum ≤ 8 := lv_room (by rw [xv_cats]; exact hcat)
  have hn' : (As.map (xv ad sad)).length = xnar d := by rw [List.length_map]; exact hn
  rcases xcal_ok hlk with hl | hl
  · exact va_runS (Ts := xtb) (nL := xmaxL id) ⟨hx, hcc, hml, hown, hts⟩ (hM sad ad cA H.size)
      (va_cwS (xnar d) hts (xgood (fun w hw => by
        rcases List.mem_append.mp hw with q | q
        · simp only [List.mem_cons, List.not_mem_nil, or_false] at q
          rcases q with q | q | q
          · rw [q]; exact hl
          · rw [q]; exact k1
          · rw [q]; exact xini hd
        · exact xwd_in hd w q)) rfl rfl rfl (xhd hd) hroom) ⟨xblind, hpre⟩ rfl hn' hls hst0 hcat' hdec hb
  · exact va_runSN (Ts := xtb) (nL := xmaxL id) ⟨hx, hcc, hml, hown, hts⟩ (hM sad ad cA H.size)
      ⟨va_cnB (xnar d) hts (xgood (xwd_in hd)) rfl rfl rfl (hN.at hl) (hts _ (xini hd)) (xhd hd) hroom, hts _ k1, trivial⟩ ⟨xblind, hpre⟩ rfl hn' hls hst0 hcat' hdec hb
theorem xrunI {idx d lw a : Nat} {y : XR} {rest : List Value} (cx : xCx p R s m args meth c D sad sc A id lv mc ms) (hI : xI D ad0 cA0 n0 sc A s ad cA w H locs) (hdec : decode (xby id) pc = .ok (.invokespecial idx, 3)) (hlk : xcalL (xown id) idx = some d) (hd : d < xLaw) (hkd : xkd d = 2) (hrk : xrnk d lw < xrnk id lv)
    (hM : xMet l D d lw y [.ref a] w) (hn : xnar d = 0) (hls : ls.size = xmaxL id) (hcat : xcat rest ≤ 8) (hb : cells + (xbud d).1 ≤ R.cells ∧ slots + (xbud d).2 ≤ R.slots) :
    va_Run p l e R s m args below meth c H locs cells slots (xbud d).1 (xbud d).2 (F0 m pc ls ((.ref a :: rest).map (xv ad sad))) (rest.map (xv ad sad)) (xRes D sad ad cA w H.size d y ([Value.ref a].map (xv ad sad)).toArray) (va_A (xws ad cA w) H.size) := by
  have hroom := xroom cx hd hrk
  have hpre := fun U hU hW => xpre (U := U) cx hI hU hW [.ref a]
  obtain ⟨hx, hcc, hr, hml, hown, hts, hlk2, hK, hin, hst, hA, hRf, hRl, hRc, hRs, hN⟩ := cx
  obtain ⟨k1, k2, k3, k4, k5⟩ := xk2 hd hkd
  have hcat' : 2 * (F0 m pc ls ((.ref a :: rest).map (xv ad sad))).monitorRoom + ((rest.map (xv ad sad)).map fun v => v.category).sum ≤ 8 := lv_room (by rw [xv_cats]; exact hcat)
  have hw : xwd d = Cond.code (xy d) (xby d) (xmaxL d) none :: xtb := by unfold xwd; rw [k5]
  have hhd := xhd hd
  rw [hn] at hhd
  rcases xcal_ok hlk with hl | hl
  · exact va_runI (As := []) (b := ad a) (Ts := xtb) (nL := xmaxL id) ⟨hx, hcc, hml, hown, hts⟩ (hM sad ad cA H.size)
      (cwI 0 hts (xgood (xwd_in hd)) hw rfl rfl (hts _ (xini hd)) (hts _ hl) (hts _ k1) k2 hhd hroom) ⟨xblind, hpre⟩ rfl rfl hls rfl hcat' hdec hb
  · exact va_runIN (As := []) (b := ad a) (Ts := xtb) (nL := xmaxL id) ⟨hx, hcc, hml, hown, hts⟩ (hM sad ad cA H.size)
      ⟨va_cnB 0 hts (xgood (xwd_in hd)) hw rfl rfl (hN.at hl) (hts _ (xini hd)) hhd hroom, k2, hts _ k1⟩ ⟨xblind, hpre⟩ rfl rfl hls rfl hcat' hdec hb
end XCALL
