/-! ===== a method's end ===== -/
theorem xrt {id : Nat} (h : id < xLaw) : (xrty id = 0 ↔ xret id = none) := by
  have h0 := xmet_ok h
  simp only [xmetok, Bool.and_eq_true] at h0
  have h1 := h0.2
  split at h1
  · rename_i hz
    exact ⟨fun _ => of_decide_eq_true h1, fun _ => hz⟩
  · rename_i hz
    rw [hz]
    refine ⟨fun q => (by cases q), fun q => ?_⟩
    rw [q] at h1
    simp at h1
  · rename_i hz
    rw [hz]
    refine ⟨fun q => (by cases q), fun q => ?_⟩
    rw [q] at h1
    simp at h1
  · rename_i n0 n1 n2
    refine ⟨fun q => absurd q n0, fun q => ?_⟩
    rw [q] at h1
    simp at h1
theorem xov_some {id : Nat} {t : FieldType} (h : id < xLaw) (hr : xret id = some t) (ad sad : Nat → Nat) (v : Value) : xov (xrty id) ad sad v = some (xv ad sad v) := by
  have h0 : xrty id ≠ 0 := fun q => by rw [(xrt h).mp q] at hr; cases hr
  unfold xov
  split
  · rename_i q; exact absurd q h0
  · rfl
theorem xov_none {id : Nat} (h : id < xLaw) (hr : xret id = none) (ad sad : Nat → Nat) (v : Value) : xov (xrty id) ad sad v = none := by
  rw [(xrt h).mpr hr]; rfl
section XRET
variable {p : Program} {l : Launch} {e : Env} {R : Room} {s : State} {m : MethodId} {args : Array Value} {below : List Frame} {meth : Method} {c : Code} {D : va_G} {sad ad0 : Nat → Nat} {cA0 : Nat → ClassId} {w0 : XW} {sz : Nat} {id lv mc ms : Nat} {x : XR}
theorem x_fin {ad : Nat → Nat} {cA : Nat → ClassId} {w : XW} {H : Heap} {locs : List Loc} {r : Value} {o : Option Value} (hI : xI D ad0 cA0 (xn w0) (xSc w0) (va_A (xws ad0 cA0 w0) sz) s ad cA w H locs) (hx : x = (r, w)) (hv : xvs w r) (ho : xov (xrty id) ad sad r = o) :
    ∀ t : State, t.heap = H → s.WarmedH t.vm → xRes D sad ad0 cA0 w0 sz id x args s (.returned o) t := by
  intro t ht hW
  subst hx
  exact ⟨⟨ad, cA, by rw [ho], by rw [ht]; exact hI.1, hI.2.2.1.moved hW.alike, hI.2.1, hI.2.2.2.1, hI.2.2.2.2.2.1, hI.2.2.2.2.2.2.1, hI.2.2.2.2.2.2.2, hv⟩, hI.2.2.2.2.1.F ht⟩
set_option maxHeartbeats 4000000 in
theorem x_ret (cx : xCx p R s m args meth c D sad (xSc w0) (va_A (xws ad0 cA0 w0) sz) id lv mc ms) (hid : id < xLaw) (J : Nat → XL → List Value → XB → XW → Option XR) (C : Nat → Nat → List Value → XW → Option XR) (i : Instr) (pc : Nat) (k : XK) (hr0 : xisret i = true) (h1 : xci1 id pc i = true) (h2 : xci2 id pc i = true) :
    xGo (fun H locs cells slots g => W p l e R s m args below meth c H locs cells slots (MQ below (xRes D sad ad0 cA0 w0 sz id x) args s mc ms (va_A (xws ad0 cA0 w0) sz)) g) (xI D ad0 cA0 (xn w0) (xSc w0) (va_A (xws ad0 cA0 w0) sz) s) m sad (xmaxL id) mc ms x pc (xins J C (xown id) id lv pc i k) := by
  intro ad cA w H locs cells slots ls L st b hI hL hs hc hb h
  obtain ⟨hx, hcc, hr, hml, hown, hts, hlk, hK, hin, hst, hA, hRf, hRl, hRc, hRs, hN⟩ := cx
  refine W.widen (k := mc) (n := ms) (by omega) (by omega) ?_
  cases i with
  | ireturn =>
    have hd := xdec h1 rfl
    dsimp only [xins] at h
    split at h
    · rename_i z
      split at h
      · rename_i hz
        simp only [xci2, hz, decide_eq_true_eq] at h2
        unfold xbz at h
        split at h
        · rename_i hzz
          cases h
          exact W.zret (ty := .boolean) hx hcc (hr.trans h2) (by rcases hzz with rfl | rfl <;> rfl) (x_fin (r := .int z) hI rfl trivial (xov_some hid h2 ad sad _)) hI.2.2.2.2.1.2.2 hd (hlocks := hlk)
        · cases h
      · rename_i hz
        simp only [xci2, hz, decide_eq_true_eq] at h2
        cases h
        exact W.iret hx hcc (hr.trans h2) (x_fin (r := .int z) hI rfl trivial (xov_some hid h2 ad sad _)) hI.2.2.2.2.1.2.2 hd (hlocks := hlk)
    · cases h
  | lreturn =>
    have hd := xdec h1 rfl
    dsimp only [xins] at h
    split at h
    · rename_i z
      simp only [xci2, decide_eq_true_eq] at h2
      cases h
      exact W.lret hx hcc (hr.trans h2) (x_fin (r := .long z) hI rfl trivial (xov_some hid h2 ad sad _)) hI.2.2.2.2.1.2.2 hd (hlocks := hlk)
    · cases h
  | areturn =>
    have hd := xdec h1 rfl
    dsimp only [xins] at h
    split at h
    · rename_i v
      simp only [xci2] at h2
      split at h2
      · rename_i rn hrn
        cases v with
        | ref a =>
          cases h
          exact W.aret hx hcc (hr.trans hrn) (Or.inl ⟨_, rfl⟩) (Or.inr ⟨_, rfl⟩) (x_fin (r := .ref a) hI rfl (xs_hd hs) (xov_some hid hrn ad sad _)) hI.2.2.2.2.1.2.2 hd (hlocks := hlk)
        | null =>
          cases h
          exact W.aret hx hcc (hr.trans hrn) (Or.inl ⟨_, rfl⟩) (Or.inl rfl) (x_fin (r := .null) hI rfl trivial (xov_some hid hrn ad sad _)) hI.2.2.2.2.1.2.2 hd (hlocks := hlk)
        | _ => cases h
      · cases h2
    · cases h
  | return_ =>
    have hd := xdec h1 rfl
    dsimp only [xins] at h
    split at h
    · simp only [xci2, decide_eq_true_eq] at h2
      cases h
      exact W.vret hx hcc (hr.trans h2) (x_fin (r := .null) hI rfl trivial (xov_none hid h2 ad sad _)) hI.2.2.2.2.1.2.2 hd (hlocks := hlk)
    · cases h
  | _ => cases hr0
end XRET
