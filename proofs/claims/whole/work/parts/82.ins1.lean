/-! ===== one instruction of the interpreter is one of the machine's ===== -/
def xisw (i : Instr) : Bool := match i with
  | .tableswitch _ _ _ _ => true
  | .lookupswitch _ _ => true
  | _ => false
set_option maxHeartbeats 4000000 in
theorem xdec {id pc : Nat} {i : Instr} (h : xci1 id pc i = true) (hs : xisw i = false) : decode (xby id) pc = .ok (i, xilen i) := by
  cases i <;> first | exact of_decide_eq_true h | cases hs
theorem xvp {i : Int32} {n : Nat} (h : xin i n = true) : vp_in i n := by
  unfold xin at h
  simp only [Bool.and_eq_true, decide_eq_true_eq] at h
  intro q
  rcases q with q | q
  · have h1 := h.1
    rw [Int32.le_iff_toInt_le] at h1
    rw [Int32.lt_iff_toInt_lt] at q
    omega
  · omega
theorem xg_some {α : Type} {b : Bool} {o : Option α} {x : α} (h : xg b o = some x) : b = true ∧ o = some x := by
  cases b
  · cases h
  · exact ⟨rfl, h⟩
theorem xo_some {α β : Type} {o : Option α} {k : α → Option β} {x : β} (h : xo o k = some x) : ∃ q, o = some q ∧ k q = some x := by
  cases o with
  | none => cases h
  | some q => exact ⟨q, rfl, h⟩
theorem xde_some {α : Type} {v : Value} {k : Nat → Option α} {x : α} (h : xde v k = some x) : ∃ a, v = .ref a ∧ k a = some x := by
  cases v <;> first | exact ⟨_, rfl, h⟩ | cases h
abbrev XK : Type := XL → List Value → XB → XW → Option XR
def xGo (Wf : Heap → List Loc → Nat → Nat → JFrame → Prop) (I : (Nat → Nat) → (Nat → ClassId) → XW → Heap → List Loc → Prop) (m : MethodId) (sad : Nat → Nat) (nL mc ms : Nat) (x : XR) (pc : Nat) (k : XK) : Prop :=
  ∀ (ad : Nat → Nat) (cA : Nat → ClassId) (w : XW) (H : Heap) (locs : List Loc) (cells slots : Nat) (ls : Array Slot) (L : XL) (st : List Value) (b : XB), I ad cA w H locs → xLH ad sad w ls nL L → (∀ v ∈ st, xvs w v) → cells + b.1 = mc → slots + b.2 = ms → k L st b w = some x → Wf H locs cells slots (F0 m pc ls (st.map (xv ad sad)))
def xCx (p : Program) (R : Room) (s : State) (m : MethodId) (args : Array Value) (meth : Method) (c : Code) (D : va_G) (sad : Nat → Nat) (sc : Nat × (Nat → Int32)) (A : Nat → Prop) (id lv mc ms : Nat) : Prop :=
  p.tables.exec = Jvm.exec ∧ c.code = xby id ∧ meth.sig.returnType = xret id ∧ c.maxLocals = xmaxL id ∧ s.vm.findClass (xcn (xown id)) = some m.cls ∧ (∀ w ∈ xtb, w.before args s = true) ∧ meth.locks = false ∧ va_K D vwCl [] s ∧ (xkd id = 2 → meth.name = "<init>") ∧ xSt sad sc A s s.heap ∧ (∀ q, s.heap.size ≤ q → A q) ∧ xrnk id lv ≤ R.frames ∧ 64 * xrnk id lv ≤ R.locals ∧ R.cells = mc ∧ R.slots = ms ∧ xNs s
section XINS
variable {p : Program} {l : Launch} {e : Env} {R : Room} {s : State} {m : MethodId} {args : Array Value} {below : List Frame} {meth : Method} {c : Code} {Q : State → Prop} {D : va_G} {sad ad0 : Nat → Nat} {cA0 : Nat → ClassId} {n0 : Nat} {sc : Nat × (Nat → Int32)} {A : Nat → Prop} {id lv mc ms : Nat} {x : XR}
variable {J : Nat → XL → List Value → XB → XW → Option XR} {C : Nat → Nat → List Value → XW → Option XR} {k : XK} {pc : Nat}

theorem xi_iconst {n : Int} (cx : xCx p R s m args meth c D sad sc A id lv mc ms) (h1 : xci1 id pc (.iconst n) = true) (h2 : xci2 id pc (.iconst n) = true) (Hk : xGo (fun H locs cells slots g => W p l e R s m args below meth c H locs cells slots Q g) (xI D ad0 cA0 n0 sc A s) m sad (xmaxL id) mc ms x (pc + xilen (.iconst n)) k) : xGo (fun H locs cells slots g => W p l e R s m args below meth c H locs cells slots Q g) (xI D ad0 cA0 n0 sc A s) m sad (xmaxL id) mc ms x pc (xins J C (xown id) id lv pc (.iconst n) k) := by
  intro ad cA w H locs cells slots ls L st b hI hL hs hc hb h
  obtain ⟨hx, hcc, hr, hml, hown, hts, hlk, hK, hin, hst, hA, hRf, hRl, hRc, hRs, hN⟩ := cx
  have hd := xdec h1 rfl
  dsimp only [xins] at h
  exact lv_iconst hx hcc hd rfl (Hk ad cA w H locs cells slots ls L (.int (iI n) :: st) b hI hL (xs_cons trivial hs) hc hb h)

theorem xi_bipush {n : Int} (cx : xCx p R s m args meth c D sad sc A id lv mc ms) (h1 : xci1 id pc (.bipush n) = true) (h2 : xci2 id pc (.bipush n) = true) (Hk : xGo (fun H locs cells slots g => W p l e R s m args below meth c H locs cells slots Q g) (xI D ad0 cA0 n0 sc A s) m sad (xmaxL id) mc ms x (pc + xilen (.bipush n)) k) : xGo (fun H locs cells slots g => W p l e R s m args below meth c H locs cells slots Q g) (xI D ad0 cA0 n0 sc A s) m sad (xmaxL id) mc ms x pc (xins J C (xown id) id lv pc (.bipush n) k) := by
  intro ad cA w H locs cells slots ls L st b hI hL hs hc hb h
  obtain ⟨hx, hcc, hr, hml, hown, hts, hlk, hK, hin, hst, hA, hRf, hRl, hRc, hRs, hN⟩ := cx
  have hd := xdec h1 rfl
  dsimp only [xins] at h
  exact lv_bipush hx hcc hd (of_decide_eq_true h2) (Hk ad cA w H locs cells slots ls L (.int (iI n) :: st) b hI hL (xs_cons trivial hs) hc hb h)

theorem xi_sipush {n : Int} (cx : xCx p R s m args meth c D sad sc A id lv mc ms) (h1 : xci1 id pc (.sipush n) = true) (h2 : xci2 id pc (.sipush n) = true) (Hk : xGo (fun H locs cells slots g => W p l e R s m args below meth c H locs cells slots Q g) (xI D ad0 cA0 n0 sc A s) m sad (xmaxL id) mc ms x (pc + xilen (.sipush n)) k) : xGo (fun H locs cells slots g => W p l e R s m args below meth c H locs cells slots Q g) (xI D ad0 cA0 n0 sc A s) m sad (xmaxL id) mc ms x pc (xins J C (xown id) id lv pc (.sipush n) k) := by
  intro ad cA w H locs cells slots ls L st b hI hL hs hc hb h
  obtain ⟨hx, hcc, hr, hml, hown, hts, hlk, hK, hin, hst, hA, hRf, hRl, hRc, hRs, hN⟩ := cx
  have hd := xdec h1 rfl
  dsimp only [xins] at h
  exact lv_sipush hx hcc hd (of_decide_eq_true h2) (Hk ad cA w H locs cells slots ls L (.int (iI n) :: st) b hI hL (xs_cons trivial hs) hc hb h)

theorem xi_lconst {n : Fin 2} (cx : xCx p R s m args meth c D sad sc A id lv mc ms) (h1 : xci1 id pc (.lconst n) = true) (h2 : xci2 id pc (.lconst n) = true) (Hk : xGo (fun H locs cells slots g => W p l e R s m args below meth c H locs cells slots Q g) (xI D ad0 cA0 n0 sc A s) m sad (xmaxL id) mc ms x (pc + xilen (.lconst n)) k) : xGo (fun H locs cells slots g => W p l e R s m args below meth c H locs cells slots Q g) (xI D ad0 cA0 n0 sc A s) m sad (xmaxL id) mc ms x pc (xins J C (xown id) id lv pc (.lconst n) k) := by
  intro ad cA w H locs cells slots ls L st b hI hL hs hc hb h
  obtain ⟨hx, hcc, hr, hml, hown, hts, hlk, hK, hin, hst, hA, hRf, hRl, hRc, hRs, hN⟩ := cx
  have hd := xdec h1 rfl
  dsimp only [xins] at h
  split at h
  · exact lv_lconst hx hcc hd (by decide) (Hk ad cA w H locs cells slots ls L (.long (lI 0) :: st) b hI hL (xs_cons trivial hs) hc hb h)
  · exact lv_lconst hx hcc hd (by decide) (Hk ad cA w H locs cells slots ls L (.long (lI 1) :: st) b hI hL (xs_cons trivial hs) hc hb h)

theorem xi_null (cx : xCx p R s m args meth c D sad sc A id lv mc ms) (h1 : xci1 id pc (.aconst_null) = true) (h2 : xci2 id pc (.aconst_null) = true) (Hk : xGo (fun H locs cells slots g => W p l e R s m args below meth c H locs cells slots Q g) (xI D ad0 cA0 n0 sc A s) m sad (xmaxL id) mc ms x (pc + xilen (.aconst_null)) k) : xGo (fun H locs cells slots g => W p l e R s m args below meth c H locs cells slots Q g) (xI D ad0 cA0 n0 sc A s) m sad (xmaxL id) mc ms x pc (xins J C (xown id) id lv pc (.aconst_null) k) := by
  intro ad cA w H locs cells slots ls L st b hI hL hs hc hb h
  obtain ⟨hx, hcc, hr, hml, hown, hts, hlk, hK, hin, hst, hA, hRf, hRl, hRc, hRs, hN⟩ := cx
  have hd := xdec h1 rfl
  dsimp only [xins] at h
  exact lv_null hx hcc hd (Hk ad cA w H locs cells slots ls L (.null :: st) b hI hL (xs_cons trivial hs) hc hb h)

theorem xi_iload {i : Nat} (cx : xCx p R s m args meth c D sad sc A id lv mc ms) (h1 : xci1 id pc (.iload i) = true) (h2 : xci2 id pc (.iload i) = true) (Hk : xGo (fun H locs cells slots g => W p l e R s m args below meth c H locs cells slots Q g) (xI D ad0 cA0 n0 sc A s) m sad (xmaxL id) mc ms x (pc + xilen (.iload i)) k) : xGo (fun H locs cells slots g => W p l e R s m args below meth c H locs cells slots Q g) (xI D ad0 cA0 n0 sc A s) m sad (xmaxL id) mc ms x pc (xins J C (xown id) id lv pc (.iload i) k) := by
  intro ad cA w H locs cells slots ls L st b hI hL hs hc hb h
  obtain ⟨hx, hcc, hr, hml, hown, hts, hlk, hK, hin, hst, hA, hRf, hRl, hRc, hRs, hN⟩ := cx
  have hd := xdec h1 rfl
  dsimp only [xins] at h
  split at h
  · rename_i z hz
    exact lv_iload hx hcc hd (hL.2.2 _ _ hz) (Hk ad cA w H locs cells slots ls L (.int z :: st) b hI hL (xs_cons trivial hs) hc hb h)
  · cases h

theorem xi_iload_n {i : Fin 4} (cx : xCx p R s m args meth c D sad sc A id lv mc ms) (h1 : xci1 id pc (.iload_n i) = true) (h2 : xci2 id pc (.iload_n i) = true) (Hk : xGo (fun H locs cells slots g => W p l e R s m args below meth c H locs cells slots Q g) (xI D ad0 cA0 n0 sc A s) m sad (xmaxL id) mc ms x (pc + xilen (.iload_n i)) k) : xGo (fun H locs cells slots g => W p l e R s m args below meth c H locs cells slots Q g) (xI D ad0 cA0 n0 sc A s) m sad (xmaxL id) mc ms x pc (xins J C (xown id) id lv pc (.iload_n i) k) := by
  intro ad cA w H locs cells slots ls L st b hI hL hs hc hb h
  obtain ⟨hx, hcc, hr, hml, hown, hts, hlk, hK, hin, hst, hA, hRf, hRl, hRc, hRs, hN⟩ := cx
  have hd := xdec h1 rfl
  dsimp only [xins] at h
  split at h
  · rename_i z hz
    exact lv_iload_n hx hcc hd rfl (hL.2.2 _ _ hz) (Hk ad cA w H locs cells slots ls L (.int z :: st) b hI hL (xs_cons trivial hs) hc hb h)
  · cases h

theorem xi_lload {i : Nat} (cx : xCx p R s m args meth c D sad sc A id lv mc ms) (h1 : xci1 id pc (.lload i) = true) (h2 : xci2 id pc (.lload i) = true) (Hk : xGo (fun H locs cells slots g => W p l e R s m args below meth c H locs cells slots Q g) (xI D ad0 cA0 n0 sc A s) m sad (xmaxL id) mc ms x (pc + xilen (.lload i)) k) : xGo (fun H locs cells slots g => W p l e R s m args below meth c H locs cells slots Q g) (xI D ad0 cA0 n0 sc A s) m sad (xmaxL id) mc ms x pc (xins J C (xown id) id lv pc (.lload i) k) := by
  intro ad cA w H locs cells slots ls L st b hI hL hs hc hb h
  obtain ⟨hx, hcc, hr, hml, hown, hts, hlk, hK, hin, hst, hA, hRf, hRl, hRc, hRs, hN⟩ := cx
  have hd := xdec h1 rfl
  dsimp only [xins] at h
  split at h
  · rename_i z hz hm
    exact lv_lload hx hcc hd (hL.2.2 _ _ hz hm) (Hk ad cA w H locs cells slots ls L (.long z :: st) b hI hL (xs_cons trivial hs) hc hb h)
  · cases h

theorem xi_lload_n {i : Fin 4} (cx : xCx p R s m args meth c D sad sc A id lv mc ms) (h1 : xci1 id pc (.lload_n i) = true) (h2 : xci2 id pc (.lload_n i) = true) (Hk : xGo (fun H locs cells slots g => W p l e R s m args below meth c H locs cells slots Q g) (xI D ad0 cA0 n0 sc A s) m sad (xmaxL id) mc ms x (pc + xilen (.lload_n i)) k) : xGo (fun H locs cells slots g => W p l e R s m args below meth c H locs cells slots Q g) (xI D ad0 cA0 n0 sc A s) m sad (xmaxL id) mc ms x pc (xins J C (xown id) id lv pc (.lload_n i) k) := by
  intro ad cA w H locs cells slots ls L st b hI hL hs hc hb h
  obtain ⟨hx, hcc, hr, hml, hown, hts, hlk, hK, hin, hst, hA, hRf, hRl, hRc, hRs, hN⟩ := cx
  have hd := xdec h1 rfl
  dsimp only [xins] at h
  split at h
  · rename_i z hz hm
    exact lv_lload_n hx hcc hd rfl (hL.2.2 _ _ hz hm) (Hk ad cA w H locs cells slots ls L (.long z :: st) b hI hL (xs_cons trivial hs) hc hb h)
  · cases h

theorem xi_aload {i : Nat} (cx : xCx p R s m args meth c D sad sc A id lv mc ms) (h1 : xci1 id pc (.aload i) = true) (h2 : xci2 id pc (.aload i) = true) (Hk : xGo (fun H locs cells slots g => W p l e R s m args below meth c H locs cells slots Q g) (xI D ad0 cA0 n0 sc A s) m sad (xmaxL id) mc ms x (pc + xilen (.aload i)) k) : xGo (fun H locs cells slots g => W p l e R s m args below meth c H locs cells slots Q g) (xI D ad0 cA0 n0 sc A s) m sad (xmaxL id) mc ms x pc (xins J C (xown id) id lv pc (.aload i) k) := by
  intro ad cA w H locs cells slots ls L st b hI hL hs hc hb h
  obtain ⟨hx, hcc, hr, hml, hown, hts, hlk, hK, hin, hst, hA, hRf, hRl, hRc, hRs, hN⟩ := cx
  have hd := xdec h1 rfl
  dsimp only [xins] at h
  split at h
  · rename_i v hz
    obtain ⟨hg, h⟩ := xg_some h
    have hv := hL.2.2 _ _ hz
    cases v with
    | ref a => exact lv_aload hx hcc hd hv.1 (Hk ad cA w H locs cells slots ls L (.ref a :: st) b hI hL (xs_cons hv.2 hs) hc hb h)
    | null => exact lv_aloadN hx hcc hd hv (Hk ad cA w H locs cells slots ls L (.null :: st) b hI hL (xs_cons trivial hs) hc hb h)
    | retAddr t => exact lv_aload hx hcc hd (hv (Nat.le_of_ble_eq_true hg)) (Hk ad cA w H locs cells slots ls L (.retAddr t :: st) b hI hL (xs_cons (Nat.le_of_ble_eq_true hg) hs) hc hb h)
    | _ => cases hg
  · cases h

theorem xi_aload_n {i : Fin 4} (cx : xCx p R s m args meth c D sad sc A id lv mc ms) (h1 : xci1 id pc (.aload_n i) = true) (h2 : xci2 id pc (.aload_n i) = true) (Hk : xGo (fun H locs cells slots g => W p l e R s m args below meth c H locs cells slots Q g) (xI D ad0 cA0 n0 sc A s) m sad (xmaxL id) mc ms x (pc + xilen (.aload_n i)) k) : xGo (fun H locs cells slots g => W p l e R s m args below meth c H locs cells slots Q g) (xI D ad0 cA0 n0 sc A s) m sad (xmaxL id) mc ms x pc (xins J C (xown id) id lv pc (.aload_n i) k) := by
  intro ad cA w H locs cells slots ls L st b hI hL hs hc hb h
  obtain ⟨hx, hcc, hr, hml, hown, hts, hlk, hK, hin, hst, hA, hRf, hRl, hRc, hRs, hN⟩ := cx
  have hd := xdec h1 rfl
  dsimp only [xins] at h
  split at h
  · rename_i v hz
    obtain ⟨hg, h⟩ := xg_some h
    have hv := hL.2.2 _ _ hz
    cases v with
    | ref a => exact lv_aload_n hx hcc hd rfl hv.1 (Hk ad cA w H locs cells slots ls L (.ref a :: st) b hI hL (xs_cons hv.2 hs) hc hb h)
    | null => exact lv_aload_nN hx hcc hd rfl hv (Hk ad cA w H locs cells slots ls L (.null :: st) b hI hL (xs_cons trivial hs) hc hb h)
    | retAddr t => exact lv_aload_n hx hcc hd rfl (hv (Nat.le_of_ble_eq_true hg)) (Hk ad cA w H locs cells slots ls L (.retAddr t :: st) b hI hL (xs_cons (Nat.le_of_ble_eq_true hg) hs) hc hb h)
    | _ => cases hg
  · cases h

theorem xi_istore {i : Nat} (cx : xCx p R s m args meth c D sad sc A id lv mc ms) (h1 : xci1 id pc (.istore i) = true) (h2 : xci2 id pc (.istore i) = true) (Hk : xGo (fun H locs cells slots g => W p l e R s m args below meth c H locs cells slots Q g) (xI D ad0 cA0 n0 sc A s) m sad (xmaxL id) mc ms x (pc + xilen (.istore i)) k) : xGo (fun H locs cells slots g => W p l e R s m args below meth c H locs cells slots Q g) (xI D ad0 cA0 n0 sc A s) m sad (xmaxL id) mc ms x pc (xins J C (xown id) id lv pc (.istore i) k) := by
  intro ad cA w H locs cells slots ls L st b hI hL hs hc hb h
  obtain ⟨hx, hcc, hr, hml, hown, hts, hlk, hK, hin, hst, hA, hRf, hRl, hRc, hRs, hN⟩ := cx
  have hd := xdec h1 rfl
  dsimp only [xins] at h
  split at h
  · rename_i z st'
    exact lv_istore hx hcc hd (xall_has hL) (Nat.le_of_ble_eq_true h2) rfl (fun ls' h' => Hk ad cA w H locs cells slots ls' (xst L i (.int z)) st' b hI (x_st1 hL rfl (by simp) trivial h') (xs_tl hs) hc hb h)
  · cases h

theorem xi_istore_n {i : Fin 4} (cx : xCx p R s m args meth c D sad sc A id lv mc ms) (h1 : xci1 id pc (.istore_n i) = true) (h2 : xci2 id pc (.istore_n i) = true) (Hk : xGo (fun H locs cells slots g => W p l e R s m args below meth c H locs cells slots Q g) (xI D ad0 cA0 n0 sc A s) m sad (xmaxL id) mc ms x (pc + xilen (.istore_n i)) k) : xGo (fun H locs cells slots g => W p l e R s m args below meth c H locs cells slots Q g) (xI D ad0 cA0 n0 sc A s) m sad (xmaxL id) mc ms x pc (xins J C (xown id) id lv pc (.istore_n i) k) := by
  intro ad cA w H locs cells slots ls L st b hI hL hs hc hb h
  obtain ⟨hx, hcc, hr, hml, hown, hts, hlk, hK, hin, hst, hA, hRf, hRl, hRc, hRs, hN⟩ := cx
  have hd := xdec h1 rfl
  dsimp only [xins] at h
  split at h
  · rename_i z st'
    exact lv_istore_n hx hcc hd rfl (xall_has hL) (Nat.le_of_ble_eq_true h2) rfl (fun ls' h' => Hk ad cA w H locs cells slots ls' (xst L i (.int z)) st' b hI (x_st1 hL rfl (by simp) trivial h') (xs_tl hs) hc hb h)
  · cases h

theorem xi_lstore {i : Nat} (cx : xCx p R s m args meth c D sad sc A id lv mc ms) (h1 : xci1 id pc (.lstore i) = true) (h2 : xci2 id pc (.lstore i) = true) (Hk : xGo (fun H locs cells slots g => W p l e R s m args below meth c H locs cells slots Q g) (xI D ad0 cA0 n0 sc A s) m sad (xmaxL id) mc ms x (pc + xilen (.lstore i)) k) : xGo (fun H locs cells slots g => W p l e R s m args below meth c H locs cells slots Q g) (xI D ad0 cA0 n0 sc A s) m sad (xmaxL id) mc ms x pc (xins J C (xown id) id lv pc (.lstore i) k) := by
  intro ad cA w H locs cells slots ls L st b hI hL hs hc hb h
  obtain ⟨hx, hcc, hr, hml, hown, hts, hlk, hK, hin, hst, hA, hRf, hRl, hRc, hRs, hN⟩ := cx
  have hd := xdec h1 rfl
  dsimp only [xins] at h
  split at h
  · rename_i z st'
    exact lv_lstore hx hcc hd (xall_has hL) (Nat.le_of_ble_eq_true h2) rfl (fun ls' h' => Hk ad cA w H locs cells slots ls' (xst2 L i (.long z)) st' b hI (x_st2 hL h') (xs_tl hs) hc hb h)
  · cases h

theorem xi_lstore_n {i : Fin 4} (cx : xCx p R s m args meth c D sad sc A id lv mc ms) (h1 : xci1 id pc (.lstore_n i) = true) (h2 : xci2 id pc (.lstore_n i) = true) (Hk : xGo (fun H locs cells slots g => W p l e R s m args below meth c H locs cells slots Q g) (xI D ad0 cA0 n0 sc A s) m sad (xmaxL id) mc ms x (pc + xilen (.lstore_n i)) k) : xGo (fun H locs cells slots g => W p l e R s m args below meth c H locs cells slots Q g) (xI D ad0 cA0 n0 sc A s) m sad (xmaxL id) mc ms x pc (xins J C (xown id) id lv pc (.lstore_n i) k) := by
  intro ad cA w H locs cells slots ls L st b hI hL hs hc hb h
  obtain ⟨hx, hcc, hr, hml, hown, hts, hlk, hK, hin, hst, hA, hRf, hRl, hRc, hRs, hN⟩ := cx
  have hd := xdec h1 rfl
  dsimp only [xins] at h
  split at h
  · rename_i z st'
    exact lv_lstore_n hx hcc hd rfl (xall_has hL) (Nat.le_of_ble_eq_true h2) rfl (fun ls' h' => Hk ad cA w H locs cells slots ls' (xst2 L i (.long z)) st' b hI (x_st2 hL h') (xs_tl hs) hc hb h)
  · cases h

theorem xi_astore {i : Nat} (cx : xCx p R s m args meth c D sad sc A id lv mc ms) (h1 : xci1 id pc (.astore i) = true) (h2 : xci2 id pc (.astore i) = true) (Hk : xGo (fun H locs cells slots g => W p l e R s m args below meth c H locs cells slots Q g) (xI D ad0 cA0 n0 sc A s) m sad (xmaxL id) mc ms x (pc + xilen (.astore i)) k) : xGo (fun H locs cells slots g => W p l e R s m args below meth c H locs cells slots Q g) (xI D ad0 cA0 n0 sc A s) m sad (xmaxL id) mc ms x pc (xins J C (xown id) id lv pc (.astore i) k) := by
  intro ad cA w H locs cells slots ls L st b hI hL hs hc hb h
  obtain ⟨hx, hcc, hr, hml, hown, hts, hlk, hK, hin, hst, hA, hRf, hRl, hRc, hRs, hN⟩ := cx
  have hd := xdec h1 rfl
  dsimp only [xins] at h
  split at h
  · rename_i v st'
    obtain ⟨hg, h⟩ := xg_some h
    have hv := xs_hd hs
    cases v with
    | ref a => exact lv_astore hx hcc hd (xall_has hL) (Nat.le_of_ble_eq_true h2) rfl (fun ls' h' => Hk ad cA w H locs cells slots ls' (xst L i (.ref a)) st' b hI (x_st1 hL rfl (by simp) hv h') (xs_tl hs) hc hb h)
    | null => exact lv_astoreN hx hcc hd (xall_has hL) (Nat.le_of_ble_eq_true h2) rfl (fun ls' h' => Hk ad cA w H locs cells slots ls' (xst L i .null) st' b hI (x_st1 hL rfl (by simp) trivial h') (xs_tl hs) hc hb h)
    | retAddr t => exact lv_astore hx hcc hd (xall_has hL) (Nat.le_of_ble_eq_true h2) rfl (fun ls' h' => Hk ad cA w H locs cells slots ls' (xst L i (.retAddr t)) st' b hI (x_st1 hL rfl (fun q => by cases q; exact absurd (show (7 : Nat) < 5 from hv) (by decide)) hv h') (xs_tl hs) hc hb h)
    | _ => cases hg
  · cases h

theorem xi_astore_n {i : Fin 4} (cx : xCx p R s m args meth c D sad sc A id lv mc ms) (h1 : xci1 id pc (.astore_n i) = true) (h2 : xci2 id pc (.astore_n i) = true) (Hk : xGo (fun H locs cells slots g => W p l e R s m args below meth c H locs cells slots Q g) (xI D ad0 cA0 n0 sc A s) m sad (xmaxL id) mc ms x (pc + xilen (.astore_n i)) k) : xGo (fun H locs cells slots g => W p l e R s m args below meth c H locs cells slots Q g) (xI D ad0 cA0 n0 sc A s) m sad (xmaxL id) mc ms x pc (xins J C (xown id) id lv pc (.astore_n i) k) := by
  intro ad cA w H locs cells slots ls L st b hI hL hs hc hb h
  obtain ⟨hx, hcc, hr, hml, hown, hts, hlk, hK, hin, hst, hA, hRf, hRl, hRc, hRs, hN⟩ := cx
  have hd := xdec h1 rfl
  dsimp only [xins] at h
  split at h
  · rename_i v st'
    obtain ⟨hg, h⟩ := xg_some h
    have hv := xs_hd hs
    cases v with
    | ref a => exact lv_astore_n hx hcc hd rfl (xall_has hL) (Nat.le_of_ble_eq_true h2) rfl (fun ls' h' => Hk ad cA w H locs cells slots ls' (xst L i (.ref a)) st' b hI (x_st1 hL rfl (by simp) hv h') (xs_tl hs) hc hb h)
    | null => exact lv_astore_nN hx hcc hd rfl (xall_has hL) (Nat.le_of_ble_eq_true h2) rfl (fun ls' h' => Hk ad cA w H locs cells slots ls' (xst L i .null) st' b hI (x_st1 hL rfl (by simp) trivial h') (xs_tl hs) hc hb h)
    | retAddr t => exact lv_astore_n hx hcc hd rfl (xall_has hL) (Nat.le_of_ble_eq_true h2) rfl (fun ls' h' => Hk ad cA w H locs cells slots ls' (xst L i (.retAddr t)) st' b hI (x_st1 hL rfl (fun q => by cases q; exact absurd (show (7 : Nat) < 5 from hv) (by decide)) hv h') (xs_tl hs) hc hb h)
    | _ => cases hg
  · cases h

theorem xi_iinc {i : Nat} {n : Int} (cx : xCx p R s m args meth c D sad sc A id lv mc ms) (h1 : xci1 id pc (.iinc i n) = true) (h2 : xci2 id pc (.iinc i n) = true) (Hk : xGo (fun H locs cells slots g => W p l e R s m args below meth c H locs cells slots Q g) (xI D ad0 cA0 n0 sc A s) m sad (xmaxL id) mc ms x (pc + xilen (.iinc i n)) k) : xGo (fun H locs cells slots g => W p l e R s m args below meth c H locs cells slots Q g) (xI D ad0 cA0 n0 sc A s) m sad (xmaxL id) mc ms x pc (xins J C (xown id) id lv pc (.iinc i n) k) := by
  intro ad cA w H locs cells slots ls L st b hI hL hs hc hb h
  obtain ⟨hx, hcc, hr, hml, hown, hts, hlk, hK, hin, hst, hA, hRf, hRl, hRc, hRs, hN⟩ := cx
  have hd := xdec h1 rfl
  dsimp only [xins] at h
  split at h
  · rename_i z hz
    obtain ⟨j, hj⟩ := List.getElem?_of_mem (xall_mem (hL.2.2 _ _ hz))
    exact lv_iinc hx hcc hd (xall_has hL) hj rfl (Nat.le_of_ble_eq_true h2) rfl (fun ls' h' => Hk ad cA w H locs cells slots ls' (xst L i (.int (z + iI n))) st b hI (x_st1 hL rfl (by simp) trivial h') hs hc hb h)
  · cases h

theorem xi_iadd (cx : xCx p R s m args meth c D sad sc A id lv mc ms) (h1 : xci1 id pc (.iadd) = true) (h2 : xci2 id pc (.iadd) = true) (Hk : xGo (fun H locs cells slots g => W p l e R s m args below meth c H locs cells slots Q g) (xI D ad0 cA0 n0 sc A s) m sad (xmaxL id) mc ms x (pc + xilen (.iadd)) k) : xGo (fun H locs cells slots g => W p l e R s m args below meth c H locs cells slots Q g) (xI D ad0 cA0 n0 sc A s) m sad (xmaxL id) mc ms x pc (xins J C (xown id) id lv pc (.iadd) k) := by
  intro ad cA w H locs cells slots ls L st b hI hL hs hc hb h
  obtain ⟨hx, hcc, hr, hml, hown, hts, hlk, hK, hin, hst, hA, hRf, hRl, hRc, hRs, hN⟩ := cx
  have hd := xdec h1 rfl
  dsimp only [xins] at h
  split at h
  · rename_i y z st'
    exact lv_iadd hx hcc hd (Hk ad cA w H locs cells slots ls L (.int (z + y) :: st') b hI hL (xs_cons trivial (xs_tl (xs_tl hs))) hc hb h)
  · cases h

theorem xi_isub (cx : xCx p R s m args meth c D sad sc A id lv mc ms) (h1 : xci1 id pc (.isub) = true) (h2 : xci2 id pc (.isub) = true) (Hk : xGo (fun H locs cells slots g => W p l e R s m args below meth c H locs cells slots Q g) (xI D ad0 cA0 n0 sc A s) m sad (xmaxL id) mc ms x (pc + xilen (.isub)) k) : xGo (fun H locs cells slots g => W p l e R s m args below meth c H locs cells slots Q g) (xI D ad0 cA0 n0 sc A s) m sad (xmaxL id) mc ms x pc (xins J C (xown id) id lv pc (.isub) k) := by
  intro ad cA w H locs cells slots ls L st b hI hL hs hc hb h
  obtain ⟨hx, hcc, hr, hml, hown, hts, hlk, hK, hin, hst, hA, hRf, hRl, hRc, hRs, hN⟩ := cx
  have hd := xdec h1 rfl
  dsimp only [xins] at h
  split at h
  · rename_i y z st'
    exact lv_isub hx hcc hd (Hk ad cA w H locs cells slots ls L (.int (z - y) :: st') b hI hL (xs_cons trivial (xs_tl (xs_tl hs))) hc hb h)
  · cases h

theorem xi_imul (cx : xCx p R s m args meth c D sad sc A id lv mc ms) (h1 : xci1 id pc (.imul) = true) (h2 : xci2 id pc (.imul) = true) (Hk : xGo (fun H locs cells slots g => W p l e R s m args below meth c H locs cells slots Q g) (xI D ad0 cA0 n0 sc A s) m sad (xmaxL id) mc ms x (pc + xilen (.imul)) k) : xGo (fun H locs cells slots g => W p l e R s m args below meth c H locs cells slots Q g) (xI D ad0 cA0 n0 sc A s) m sad (xmaxL id) mc ms x pc (xins J C (xown id) id lv pc (.imul) k) := by
  intro ad cA w H locs cells slots ls L st b hI hL hs hc hb h
  obtain ⟨hx, hcc, hr, hml, hown, hts, hlk, hK, hin, hst, hA, hRf, hRl, hRc, hRs, hN⟩ := cx
  have hd := xdec h1 rfl
  dsimp only [xins] at h
  split at h
  · rename_i y z st'
    exact lv_imul hx hcc hd (Hk ad cA w H locs cells slots ls L (.int (z * y) :: st') b hI hL (xs_cons trivial (xs_tl (xs_tl hs))) hc hb h)
  · cases h

theorem xi_iand (cx : xCx p R s m args meth c D sad sc A id lv mc ms) (h1 : xci1 id pc (.iand) = true) (h2 : xci2 id pc (.iand) = true) (Hk : xGo (fun H locs cells slots g => W p l e R s m args below meth c H locs cells slots Q g) (xI D ad0 cA0 n0 sc A s) m sad (xmaxL id) mc ms x (pc + xilen (.iand)) k) : xGo (fun H locs cells slots g => W p l e R s m args below meth c H locs cells slots Q g) (xI D ad0 cA0 n0 sc A s) m sad (xmaxL id) mc ms x pc (xins J C (xown id) id lv pc (.iand) k) := by
  intro ad cA w H locs cells slots ls L st b hI hL hs hc hb h
  obtain ⟨hx, hcc, hr, hml, hown, hts, hlk, hK, hin, hst, hA, hRf, hRl, hRc, hRs, hN⟩ := cx
  have hd := xdec h1 rfl
  dsimp only [xins] at h
  split at h
  · rename_i y z st'
    exact lv_iand hx hcc hd (Hk ad cA w H locs cells slots ls L (.int (z &&& y) :: st') b hI hL (xs_cons trivial (xs_tl (xs_tl hs))) hc hb h)
  · cases h

theorem xi_ior (cx : xCx p R s m args meth c D sad sc A id lv mc ms) (h1 : xci1 id pc (.ior) = true) (h2 : xci2 id pc (.ior) = true) (Hk : xGo (fun H locs cells slots g => W p l e R s m args below meth c H locs cells slots Q g) (xI D ad0 cA0 n0 sc A s) m sad (xmaxL id) mc ms x (pc + xilen (.ior)) k) : xGo (fun H locs cells slots g => W p l e R s m args below meth c H locs cells slots Q g) (xI D ad0 cA0 n0 sc A s) m sad (xmaxL id) mc ms x pc (xins J C (xown id) id lv pc (.ior) k) := by
  intro ad cA w H locs cells slots ls L st b hI hL hs hc hb h
  obtain ⟨hx, hcc, hr, hml, hown, hts, hlk, hK, hin, hst, hA, hRf, hRl, hRc, hRs, hN⟩ := cx
  have hd := xdec h1 rfl
  dsimp only [xins] at h
  split at h
  · rename_i y z st'
    exact lv_ior hx hcc hd (Hk ad cA w H locs cells slots ls L (.int (z ||| y) :: st') b hI hL (xs_cons trivial (xs_tl (xs_tl hs))) hc hb h)
  · cases h

theorem xi_ixor (cx : xCx p R s m args meth c D sad sc A id lv mc ms) (h1 : xci1 id pc (.ixor) = true) (h2 : xci2 id pc (.ixor) = true) (Hk : xGo (fun H locs cells slots g => W p l e R s m args below meth c H locs cells slots Q g) (xI D ad0 cA0 n0 sc A s) m sad (xmaxL id) mc ms x (pc + xilen (.ixor)) k) : xGo (fun H locs cells slots g => W p l e R s m args below meth c H locs cells slots Q g) (xI D ad0 cA0 n0 sc A s) m sad (xmaxL id) mc ms x pc (xins J C (xown id) id lv pc (.ixor) k) := by
  intro ad cA w H locs cells slots ls L st b hI hL hs hc hb h
  obtain ⟨hx, hcc, hr, hml, hown, hts, hlk, hK, hin, hst, hA, hRf, hRl, hRc, hRs, hN⟩ := cx
  have hd := xdec h1 rfl
  dsimp only [xins] at h
  split at h
  · rename_i y z st'
    exact lv_ixor hx hcc hd (Hk ad cA w H locs cells slots ls L (.int (z ^^^ y) :: st') b hI hL (xs_cons trivial (xs_tl (xs_tl hs))) hc hb h)
  · cases h

theorem xi_ishl (cx : xCx p R s m args meth c D sad sc A id lv mc ms) (h1 : xci1 id pc (.ishl) = true) (h2 : xci2 id pc (.ishl) = true) (Hk : xGo (fun H locs cells slots g => W p l e R s m args below meth c H locs cells slots Q g) (xI D ad0 cA0 n0 sc A s) m sad (xmaxL id) mc ms x (pc + xilen (.ishl)) k) : xGo (fun H locs cells slots g => W p l e R s m args below meth c H locs cells slots Q g) (xI D ad0 cA0 n0 sc A s) m sad (xmaxL id) mc ms x pc (xins J C (xown id) id lv pc (.ishl) k) := by
  intro ad cA w H locs cells slots ls L st b hI hL hs hc hb h
  obtain ⟨hx, hcc, hr, hml, hown, hts, hlk, hK, hin, hst, hA, hRf, hRl, hRc, hRs, hN⟩ := cx
  have hd := xdec h1 rfl
  dsimp only [xins] at h
  split at h
  · rename_i y z st'
    exact lv_ishl hx hcc hd (Hk ad cA w H locs cells slots ls L (.int (z <<< (y &&& 31)) :: st') b hI hL (xs_cons trivial (xs_tl (xs_tl hs))) hc hb h)
  · cases h

theorem xi_ishr (cx : xCx p R s m args meth c D sad sc A id lv mc ms) (h1 : xci1 id pc (.ishr) = true) (h2 : xci2 id pc (.ishr) = true) (Hk : xGo (fun H locs cells slots g => W p l e R s m args below meth c H locs cells slots Q g) (xI D ad0 cA0 n0 sc A s) m sad (xmaxL id) mc ms x (pc + xilen (.ishr)) k) : xGo (fun H locs cells slots g => W p l e R s m args below meth c H locs cells slots Q g) (xI D ad0 cA0 n0 sc A s) m sad (xmaxL id) mc ms x pc (xins J C (xown id) id lv pc (.ishr) k) := by
  intro ad cA w H locs cells slots ls L st b hI hL hs hc hb h
  obtain ⟨hx, hcc, hr, hml, hown, hts, hlk, hK, hin, hst, hA, hRf, hRl, hRc, hRs, hN⟩ := cx
  have hd := xdec h1 rfl
  dsimp only [xins] at h
  split at h
  · rename_i y z st'
    exact lv_ishr hx hcc hd (Hk ad cA w H locs cells slots ls L (.int (z >>> (y &&& 31)) :: st') b hI hL (xs_cons trivial (xs_tl (xs_tl hs))) hc hb h)
  · cases h

theorem xi_ladd (cx : xCx p R s m args meth c D sad sc A id lv mc ms) (h1 : xci1 id pc (.ladd) = true) (h2 : xci2 id pc (.ladd) = true) (Hk : xGo (fun H locs cells slots g => W p l e R s m args below meth c H locs cells slots Q g) (xI D ad0 cA0 n0 sc A s) m sad (xmaxL id) mc ms x (pc + xilen (.ladd)) k) : xGo (fun H locs cells slots g => W p l e R s m args below meth c H locs cells slots Q g) (xI D ad0 cA0 n0 sc A s) m sad (xmaxL id) mc ms x pc (xins J C (xown id) id lv pc (.ladd) k) := by
  intro ad cA w H locs cells slots ls L st b hI hL hs hc hb h
  obtain ⟨hx, hcc, hr, hml, hown, hts, hlk, hK, hin, hst, hA, hRf, hRl, hRc, hRs, hN⟩ := cx
  have hd := xdec h1 rfl
  dsimp only [xins] at h
  split at h
  · rename_i y z st'
    exact lv_ladd hx hcc hd (Hk ad cA w H locs cells slots ls L (.long (z + y) :: st') b hI hL (xs_cons trivial (xs_tl (xs_tl hs))) hc hb h)
  · cases h

theorem xi_lsub (cx : xCx p R s m args meth c D sad sc A id lv mc ms) (h1 : xci1 id pc (.lsub) = true) (h2 : xci2 id pc (.lsub) = true) (Hk : xGo (fun H locs cells slots g => W p l e R s m args below meth c H locs cells slots Q g) (xI D ad0 cA0 n0 sc A s) m sad (xmaxL id) mc ms x (pc + xilen (.lsub)) k) : xGo (fun H locs cells slots g => W p l e R s m args below meth c H locs cells slots Q g) (xI D ad0 cA0 n0 sc A s) m sad (xmaxL id) mc ms x pc (xins J C (xown id) id lv pc (.lsub) k) := by
  intro ad cA w H locs cells slots ls L st b hI hL hs hc hb h
  obtain ⟨hx, hcc, hr, hml, hown, hts, hlk, hK, hin, hst, hA, hRf, hRl, hRc, hRs, hN⟩ := cx
  have hd := xdec h1 rfl
  dsimp only [xins] at h
  split at h
  · rename_i y z st'
    exact lv_lsub hx hcc hd (Hk ad cA w H locs cells slots ls L (.long (z - y) :: st') b hI hL (xs_cons trivial (xs_tl (xs_tl hs))) hc hb h)
  · cases h

theorem xi_lmul (cx : xCx p R s m args meth c D sad sc A id lv mc ms) (h1 : xci1 id pc (.lmul) = true) (h2 : xci2 id pc (.lmul) = true) (Hk : xGo (fun H locs cells slots g => W p l e R s m args below meth c H locs cells slots Q g) (xI D ad0 cA0 n0 sc A s) m sad (xmaxL id) mc ms x (pc + xilen (.lmul)) k) : xGo (fun H locs cells slots g => W p l e R s m args below meth c H locs cells slots Q g) (xI D ad0 cA0 n0 sc A s) m sad (xmaxL id) mc ms x pc (xins J C (xown id) id lv pc (.lmul) k) := by
  intro ad cA w H locs cells slots ls L st b hI hL hs hc hb h
  obtain ⟨hx, hcc, hr, hml, hown, hts, hlk, hK, hin, hst, hA, hRf, hRl, hRc, hRs, hN⟩ := cx
  have hd := xdec h1 rfl
  dsimp only [xins] at h
  split at h
  · rename_i y z st'
    exact lv_lmul hx hcc hd (Hk ad cA w H locs cells slots ls L (.long (z * y) :: st') b hI hL (xs_cons trivial (xs_tl (xs_tl hs))) hc hb h)
  · cases h

theorem xi_land (cx : xCx p R s m args meth c D sad sc A id lv mc ms) (h1 : xci1 id pc (.land) = true) (h2 : xci2 id pc (.land) = true) (Hk : xGo (fun H locs cells slots g => W p l e R s m args below meth c H locs cells slots Q g) (xI D ad0 cA0 n0 sc A s) m sad (xmaxL id) mc ms x (pc + xilen (.land)) k) : xGo (fun H locs cells slots g => W p l e R s m args below meth c H locs cells slots Q g) (xI D ad0 cA0 n0 sc A s) m sad (xmaxL id) mc ms x pc (xins J C (xown id) id lv pc (.land) k) := by
  intro ad cA w H locs cells slots ls L st b hI hL hs hc hb h
  obtain ⟨hx, hcc, hr, hml, hown, hts, hlk, hK, hin, hst, hA, hRf, hRl, hRc, hRs, hN⟩ := cx
  have hd := xdec h1 rfl
  dsimp only [xins] at h
  split at h
  · rename_i y z st'
    exact lv_land hx hcc hd (Hk ad cA w H locs cells slots ls L (.long (z &&& y) :: st') b hI hL (xs_cons trivial (xs_tl (xs_tl hs))) hc hb h)
  · cases h

theorem xi_lor (cx : xCx p R s m args meth c D sad sc A id lv mc ms) (h1 : xci1 id pc (.lor) = true) (h2 : xci2 id pc (.lor) = true) (Hk : xGo (fun H locs cells slots g => W p l e R s m args below meth c H locs cells slots Q g) (xI D ad0 cA0 n0 sc A s) m sad (xmaxL id) mc ms x (pc + xilen (.lor)) k) : xGo (fun H locs cells slots g => W p l e R s m args below meth c H locs cells slots Q g) (xI D ad0 cA0 n0 sc A s) m sad (xmaxL id) mc ms x pc (xins J C (xown id) id lv pc (.lor) k) := by
  intro ad cA w H locs cells slots ls L st b hI hL hs hc hb h
  obtain ⟨hx, hcc, hr, hml, hown, hts, hlk, hK, hin, hst, hA, hRf, hRl, hRc, hRs, hN⟩ := cx
  have hd := xdec h1 rfl
  dsimp only [xins] at h
  split at h
  · rename_i y z st'
    exact lv_lor hx hcc hd (Hk ad cA w H locs cells slots ls L (.long (z ||| y) :: st') b hI hL (xs_cons trivial (xs_tl (xs_tl hs))) hc hb h)
  · cases h

theorem xi_idiv (cx : xCx p R s m args meth c D sad sc A id lv mc ms) (h1 : xci1 id pc (.idiv) = true) (h2 : xci2 id pc (.idiv) = true) (Hk : xGo (fun H locs cells slots g => W p l e R s m args below meth c H locs cells slots Q g) (xI D ad0 cA0 n0 sc A s) m sad (xmaxL id) mc ms x (pc + xilen (.idiv)) k) : xGo (fun H locs cells slots g => W p l e R s m args below meth c H locs cells slots Q g) (xI D ad0 cA0 n0 sc A s) m sad (xmaxL id) mc ms x pc (xins J C (xown id) id lv pc (.idiv) k) := by
  intro ad cA w H locs cells slots ls L st b hI hL hs hc hb h
  obtain ⟨hx, hcc, hr, hml, hown, hts, hlk, hK, hin, hst, hA, hRf, hRl, hRc, hRs, hN⟩ := cx
  have hd := xdec h1 rfl
  dsimp only [xins] at h
  split at h
  · rename_i y z st'
    split at h
    · cases h
    · rename_i hy
      exact lv_idiv hx hcc hd hy (Hk ad cA w H locs cells slots ls L (.int (z / y) :: st') b hI hL (xs_cons trivial (xs_tl (xs_tl hs))) hc hb h)
  · cases h

theorem xi_irem (cx : xCx p R s m args meth c D sad sc A id lv mc ms) (h1 : xci1 id pc (.irem) = true) (h2 : xci2 id pc (.irem) = true) (Hk : xGo (fun H locs cells slots g => W p l e R s m args below meth c H locs cells slots Q g) (xI D ad0 cA0 n0 sc A s) m sad (xmaxL id) mc ms x (pc + xilen (.irem)) k) : xGo (fun H locs cells slots g => W p l e R s m args below meth c H locs cells slots Q g) (xI D ad0 cA0 n0 sc A s) m sad (xmaxL id) mc ms x pc (xins J C (xown id) id lv pc (.irem) k) := by
  intro ad cA w H locs cells slots ls L st b hI hL hs hc hb h
  obtain ⟨hx, hcc, hr, hml, hown, hts, hlk, hK, hin, hst, hA, hRf, hRl, hRc, hRs, hN⟩ := cx
  have hd := xdec h1 rfl
  dsimp only [xins] at h
  split at h
  · rename_i y z st'
    split at h
    · cases h
    · rename_i hy
      exact lv_irem hx hcc hd hy (Hk ad cA w H locs cells slots ls L (.int (z - z / y * y) :: st') b hI hL (xs_cons trivial (xs_tl (xs_tl hs))) hc hb h)
  · cases h

theorem xi_ldiv (cx : xCx p R s m args meth c D sad sc A id lv mc ms) (h1 : xci1 id pc (.ldiv) = true) (h2 : xci2 id pc (.ldiv) = true) (Hk : xGo (fun H locs cells slots g => W p l e R s m args below meth c H locs cells slots Q g) (xI D ad0 cA0 n0 sc A s) m sad (xmaxL id) mc ms x (pc + xilen (.ldiv)) k) : xGo (fun H locs cells slots g => W p l e R s m args below meth c H locs cells slots Q g) (xI D ad0 cA0 n0 sc A s) m sad (xmaxL id) mc ms x pc (xins J C (xown id) id lv pc (.ldiv) k) := by
  intro ad cA w H locs cells slots ls L st b hI hL hs hc hb h
  obtain ⟨hx, hcc, hr, hml, hown, hts, hlk, hK, hin, hst, hA, hRf, hRl, hRc, hRs, hN⟩ := cx
  have hd := xdec h1 rfl
  dsimp only [xins] at h
  split at h
  · rename_i y z st'
    split at h
    · cases h
    · rename_i hy
      exact lv_ldiv hx hcc hd hy (Hk ad cA w H locs cells slots ls L (.long (z / y) :: st') b hI hL (xs_cons trivial (xs_tl (xs_tl hs))) hc hb h)
  · cases h

theorem xi_lrem (cx : xCx p R s m args meth c D sad sc A id lv mc ms) (h1 : xci1 id pc (.lrem) = true) (h2 : xci2 id pc (.lrem) = true) (Hk : xGo (fun H locs cells slots g => W p l e R s m args below meth c H locs cells slots Q g) (xI D ad0 cA0 n0 sc A s) m sad (xmaxL id) mc ms x (pc + xilen (.lrem)) k) : xGo (fun H locs cells slots g => W p l e R s m args below meth c H locs cells slots Q g) (xI D ad0 cA0 n0 sc A s) m sad (xmaxL id) mc ms x pc (xins J C (xown id) id lv pc (.lrem) k) := by
  intro ad cA w H locs cells slots ls L st b hI hL hs hc hb h
  obtain ⟨hx, hcc, hr, hml, hown, hts, hlk, hK, hin, hst, hA, hRf, hRl, hRc, hRs, hN⟩ := cx
  have hd := xdec h1 rfl
  dsimp only [xins] at h
  split at h
  · rename_i y z st'
    split at h
    · cases h
    · rename_i hy
      exact lv_lrem hx hcc hd hy (Hk ad cA w H locs cells slots ls L (.long (z - z / y * y) :: st') b hI hL (xs_cons trivial (xs_tl (xs_tl hs))) hc hb h)
  · cases h

theorem xi_ineg (cx : xCx p R s m args meth c D sad sc A id lv mc ms) (h1 : xci1 id pc (.ineg) = true) (h2 : xci2 id pc (.ineg) = true) (Hk : xGo (fun H locs cells slots g => W p l e R s m args below meth c H locs cells slots Q g) (xI D ad0 cA0 n0 sc A s) m sad (xmaxL id) mc ms x (pc + xilen (.ineg)) k) : xGo (fun H locs cells slots g => W p l e R s m args below meth c H locs cells slots Q g) (xI D ad0 cA0 n0 sc A s) m sad (xmaxL id) mc ms x pc (xins J C (xown id) id lv pc (.ineg) k) := by
  intro ad cA w H locs cells slots ls L st b hI hL hs hc hb h
  obtain ⟨hx, hcc, hr, hml, hown, hts, hlk, hK, hin, hst, hA, hRf, hRl, hRc, hRs, hN⟩ := cx
  have hd := xdec h1 rfl
  dsimp only [xins] at h
  split at h
  · rename_i z st'
    exact lv_ineg hx hcc hd (Hk ad cA w H locs cells slots ls L (.int (-z) :: st') b hI hL (xs_cons trivial (xs_tl hs)) hc hb h)
  · cases h

theorem xi_i2l (cx : xCx p R s m args meth c D sad sc A id lv mc ms) (h1 : xci1 id pc (.i2l) = true) (h2 : xci2 id pc (.i2l) = true) (Hk : xGo (fun H locs cells slots g => W p l e R s m args below meth c H locs cells slots Q g) (xI D ad0 cA0 n0 sc A s) m sad (xmaxL id) mc ms x (pc + xilen (.i2l)) k) : xGo (fun H locs cells slots g => W p l e R s m args below meth c H locs cells slots Q g) (xI D ad0 cA0 n0 sc A s) m sad (xmaxL id) mc ms x pc (xins J C (xown id) id lv pc (.i2l) k) := by
  intro ad cA w H locs cells slots ls L st b hI hL hs hc hb h
  obtain ⟨hx, hcc, hr, hml, hown, hts, hlk, hK, hin, hst, hA, hRf, hRl, hRc, hRs, hN⟩ := cx
  have hd := xdec h1 rfl
  dsimp only [xins] at h
  split at h
  · rename_i z st'
    exact lv_i2l hx hcc hd rfl (Hk ad cA w H locs cells slots ls L (.long z.toInt64 :: st') b hI hL (xs_cons trivial (xs_tl hs)) hc hb h)
  · cases h

theorem xi_lshl (cx : xCx p R s m args meth c D sad sc A id lv mc ms) (h1 : xci1 id pc (.lshl) = true) (h2 : xci2 id pc (.lshl) = true) (Hk : xGo (fun H locs cells slots g => W p l e R s m args below meth c H locs cells slots Q g) (xI D ad0 cA0 n0 sc A s) m sad (xmaxL id) mc ms x (pc + xilen (.lshl)) k) : xGo (fun H locs cells slots g => W p l e R s m args below meth c H locs cells slots Q g) (xI D ad0 cA0 n0 sc A s) m sad (xmaxL id) mc ms x pc (xins J C (xown id) id lv pc (.lshl) k) := by
  intro ad cA w H locs cells slots ls L st b hI hL hs hc hb h
  obtain ⟨hx, hcc, hr, hml, hown, hts, hlk, hK, hin, hst, hA, hRf, hRl, hRc, hRs, hN⟩ := cx
  have hd := xdec h1 rfl
  dsimp only [xins] at h
  split at h
  · rename_i y z st'
    exact lv_lshl hx hcc hd rfl (Hk ad cA w H locs cells slots ls L (.long (z <<< (y.toInt64 &&& 63)) :: st') b hI hL (xs_cons trivial (xs_tl (xs_tl hs))) hc hb h)
  · cases h

theorem xi_lshr (cx : xCx p R s m args meth c D sad sc A id lv mc ms) (h1 : xci1 id pc (.lshr) = true) (h2 : xci2 id pc (.lshr) = true) (Hk : xGo (fun H locs cells slots g => W p l e R s m args below meth c H locs cells slots Q g) (xI D ad0 cA0 n0 sc A s) m sad (xmaxL id) mc ms x (pc + xilen (.lshr)) k) : xGo (fun H locs cells slots g => W p l e R s m args below meth c H locs cells slots Q g) (xI D ad0 cA0 n0 sc A s) m sad (xmaxL id) mc ms x pc (xins J C (xown id) id lv pc (.lshr) k) := by
  intro ad cA w H locs cells slots ls L st b hI hL hs hc hb h
  obtain ⟨hx, hcc, hr, hml, hown, hts, hlk, hK, hin, hst, hA, hRf, hRl, hRc, hRs, hN⟩ := cx
  have hd := xdec h1 rfl
  dsimp only [xins] at h
  split at h
  · rename_i y z st'
    exact lv_lshr hx hcc hd rfl (Hk ad cA w H locs cells slots ls L (.long (z >>> (y.toInt64 &&& 63)) :: st') b hI hL (xs_cons trivial (xs_tl (xs_tl hs))) hc hb h)
  · cases h

theorem xi_lushr (cx : xCx p R s m args meth c D sad sc A id lv mc ms) (h1 : xci1 id pc (.lushr) = true) (h2 : xci2 id pc (.lushr) = true) (Hk : xGo (fun H locs cells slots g => W p l e R s m args below meth c H locs cells slots Q g) (xI D ad0 cA0 n0 sc A s) m sad (xmaxL id) mc ms x (pc + xilen (.lushr)) k) : xGo (fun H locs cells slots g => W p l e R s m args below meth c H locs cells slots Q g) (xI D ad0 cA0 n0 sc A s) m sad (xmaxL id) mc ms x pc (xins J C (xown id) id lv pc (.lushr) k) := by
  intro ad cA w H locs cells slots ls L st b hI hL hs hc hb h
  obtain ⟨hx, hcc, hr, hml, hown, hts, hlk, hK, hin, hst, hA, hRf, hRl, hRc, hRs, hN⟩ := cx
  have hd := xdec h1 rfl
  dsimp only [xins] at h
  split at h
  · rename_i y z st'
    exact lv_lushr hx hcc hd rfl (Hk ad cA w H locs cells slots ls L (.long ((z.toUInt64 >>> (y.toInt64.toUInt64 &&& Int64.toUInt64 63)).toInt64) :: st') b hI hL (xs_cons trivial (xs_tl (xs_tl hs))) hc hb h)
  · cases h

theorem xi_lcmp (cx : xCx p R s m args meth c D sad sc A id lv mc ms) (h1 : xci1 id pc (.lcmp) = true) (h2 : xci2 id pc (.lcmp) = true) (Hk : xGo (fun H locs cells slots g => W p l e R s m args below meth c H locs cells slots Q g) (xI D ad0 cA0 n0 sc A s) m sad (xmaxL id) mc ms x (pc + xilen (.lcmp)) k) : xGo (fun H locs cells slots g => W p l e R s m args below meth c H locs cells slots Q g) (xI D ad0 cA0 n0 sc A s) m sad (xmaxL id) mc ms x pc (xins J C (xown id) id lv pc (.lcmp) k) := by
  intro ad cA w H locs cells slots ls L st b hI hL hs hc hb h
  obtain ⟨hx, hcc, hr, hml, hown, hts, hlk, hK, hin, hst, hA, hRf, hRl, hRc, hRs, hN⟩ := cx
  have hd := xdec h1 rfl
  dsimp only [xins] at h
  split at h
  · rename_i y z st'
    exact W.lcmp hx hcc hd (Hk ad cA w H locs cells slots ls L (.int (lg_cmp z y) :: st') b hI hL (xs_cons trivial (xs_tl (xs_tl hs))) hc hb h)
  · cases h

theorem xi_dup (cx : xCx p R s m args meth c D sad sc A id lv mc ms) (h1 : xci1 id pc (.dup) = true) (h2 : xci2 id pc (.dup) = true) (Hk : xGo (fun H locs cells slots g => W p l e R s m args below meth c H locs cells slots Q g) (xI D ad0 cA0 n0 sc A s) m sad (xmaxL id) mc ms x (pc + xilen (.dup)) k) : xGo (fun H locs cells slots g => W p l e R s m args below meth c H locs cells slots Q g) (xI D ad0 cA0 n0 sc A s) m sad (xmaxL id) mc ms x pc (xins J C (xown id) id lv pc (.dup) k) := by
  intro ad cA w H locs cells slots ls L st b hI hL hs hc hb h
  obtain ⟨hx, hcc, hr, hml, hown, hts, hlk, hK, hin, hst, hA, hRf, hRl, hRc, hRs, hN⟩ := cx
  have hd := xdec h1 rfl
  dsimp only [xins] at h
  split at h
  · rename_i v st'
    obtain ⟨hg, h⟩ := xg_some h
    refine lv_dup hx hcc hd ?_ (Hk ad cA w H locs cells slots ls L (v :: v :: st') b hI hL (xs_cons (xs_hd hs) hs) hc hb h)
    rw [xv_cat]
    cases v <;> first | rfl | cases hg
  · cases h

theorem xi_pop (cx : xCx p R s m args meth c D sad sc A id lv mc ms) (h1 : xci1 id pc (.pop) = true) (h2 : xci2 id pc (.pop) = true) (Hk : xGo (fun H locs cells slots g => W p l e R s m args below meth c H locs cells slots Q g) (xI D ad0 cA0 n0 sc A s) m sad (xmaxL id) mc ms x (pc + xilen (.pop)) k) : xGo (fun H locs cells slots g => W p l e R s m args below meth c H locs cells slots Q g) (xI D ad0 cA0 n0 sc A s) m sad (xmaxL id) mc ms x pc (xins J C (xown id) id lv pc (.pop) k) := by
  intro ad cA w H locs cells slots ls L st b hI hL hs hc hb h
  obtain ⟨hx, hcc, hr, hml, hown, hts, hlk, hK, hin, hst, hA, hRf, hRl, hRc, hRs, hN⟩ := cx
  have hd := xdec h1 rfl
  dsimp only [xins] at h
  split at h
  · rename_i z st'
    exact lv_pop hx hcc hd rfl (Hk ad cA w H locs cells slots ls L st' b hI hL (xs_tl hs) hc hb h)
  · cases h

theorem xi_goto {off : Int} (cx : xCx p R s m args meth c D sad sc A id lv mc ms) (h1 : xci1 id pc (.goto off) = true) (h2 : xci2 id pc (.goto off) = true) (HJ : ∀ t, xGo (fun H locs cells slots g => W p l e R s m args below meth c H locs cells slots Q g) (xI D ad0 cA0 n0 sc A s) m sad (xmaxL id) mc ms x t (J t)) (Hk : xGo (fun H locs cells slots g => W p l e R s m args below meth c H locs cells slots Q g) (xI D ad0 cA0 n0 sc A s) m sad (xmaxL id) mc ms x (pc + xilen (.goto off)) k) : xGo (fun H locs cells slots g => W p l e R s m args below meth c H locs cells slots Q g) (xI D ad0 cA0 n0 sc A s) m sad (xmaxL id) mc ms x pc (xins J C (xown id) id lv pc (.goto off) k) := by
  intro ad cA w H locs cells slots ls L st b hI hL hs hc hb h
  obtain ⟨hx, hcc, hr, hml, hown, hts, hlk, hK, hin, hst, hA, hRf, hRl, hRc, hRs, hN⟩ := cx
  have hd := xdec h1 rfl
  dsimp only [xins] at h
  have ht : (pc : Int) + off = (xtg pc off : Nat) := (Int.toNat_of_nonneg (of_decide_eq_true h2)).symm
  exact lv_goto hx hcc hd ht (HJ _ ad cA w H locs cells slots ls L st b hI hL hs hc hb h)

theorem xi_ifCond {cn : ClassFile.Cond} {off : Int} (cx : xCx p R s m args meth c D sad sc A id lv mc ms) (h1 : xci1 id pc (.ifCond cn off) = true) (h2 : xci2 id pc (.ifCond cn off) = true) (HJ : ∀ t, xGo (fun H locs cells slots g => W p l e R s m args below meth c H locs cells slots Q g) (xI D ad0 cA0 n0 sc A s) m sad (xmaxL id) mc ms x t (J t)) (Hk : xGo (fun H locs cells slots g => W p l e R s m args below meth c H locs cells slots Q g) (xI D ad0 cA0 n0 sc A s) m sad (xmaxL id) mc ms x (pc + xilen (.ifCond cn off)) k) : xGo (fun H locs cells slots g => W p l e R s m args below meth c H locs cells slots Q g) (xI D ad0 cA0 n0 sc A s) m sad (xmaxL id) mc ms x pc (xins J C (xown id) id lv pc (.ifCond cn off) k) := by
  intro ad cA w H locs cells slots ls L st b hI hL hs hc hb h
  obtain ⟨hx, hcc, hr, hml, hown, hts, hlk, hK, hin, hst, hA, hRf, hRl, hRc, hRs, hN⟩ := cx
  have hd := xdec h1 rfl
  dsimp only [xins] at h
  have ht : (pc : Int) + off = (xtg pc off : Nat) := (Int.toNat_of_nonneg (of_decide_eq_true h2)).symm
  split at h
  · rename_i z st'
    cases cn <;> dsimp only [xif] at h
    · exact lv_if_eq hx hcc hd ht (fun q => by rw [if_pos q] at h; exact HJ _ ad cA w H locs cells slots ls L st' b hI hL (xs_tl hs) hc hb h) (fun q => by rw [if_neg q] at h; exact Hk ad cA w H locs cells slots ls L st' b hI hL (xs_tl hs) hc hb h)
    · exact lv_if_ne hx hcc hd ht (fun q => by rw [if_neg q] at h; exact HJ _ ad cA w H locs cells slots ls L st' b hI hL (xs_tl hs) hc hb h) (fun q => by rw [if_pos q] at h; exact Hk ad cA w H locs cells slots ls L st' b hI hL (xs_tl hs) hc hb h)
    · exact lv_if_lt hx hcc hd ht (fun q => by rw [if_pos q] at h; exact HJ _ ad cA w H locs cells slots ls L st' b hI hL (xs_tl hs) hc hb h) (fun q => by rw [if_neg q] at h; exact Hk ad cA w H locs cells slots ls L st' b hI hL (xs_tl hs) hc hb h)
    · exact lv_if_ge hx hcc hd ht (fun q => by rw [if_pos q] at h; exact HJ _ ad cA w H locs cells slots ls L st' b hI hL (xs_tl hs) hc hb h) (fun q => by rw [if_neg q] at h; exact Hk ad cA w H locs cells slots ls L st' b hI hL (xs_tl hs) hc hb h)
    · exact lv_if_gt hx hcc hd ht (fun q => by rw [if_pos q] at h; exact HJ _ ad cA w H locs cells slots ls L st' b hI hL (xs_tl hs) hc hb h) (fun q => by rw [if_neg q] at h; exact Hk ad cA w H locs cells slots ls L st' b hI hL (xs_tl hs) hc hb h)
    · exact lv_if_le hx hcc hd ht (fun q => by rw [if_pos q] at h; exact HJ _ ad cA w H locs cells slots ls L st' b hI hL (xs_tl hs) hc hb h) (fun q => by rw [if_neg q] at h; exact Hk ad cA w H locs cells slots ls L st' b hI hL (xs_tl hs) hc hb h)
  · cases h

theorem xi_if_icmp {cn : ClassFile.Cond} {off : Int} (cx : xCx p R s m args meth c D sad sc A id lv mc ms) (h1 : xci1 id pc (.if_icmp cn off) = true) (h2 : xci2 id pc (.if_icmp cn off) = true) (HJ : ∀ t, xGo (fun H locs cells slots g => W p l e R s m args below meth c H locs cells slots Q g) (xI D ad0 cA0 n0 sc A s) m sad (xmaxL id) mc ms x t (J t)) (Hk : xGo (fun H locs cells slots g => W p l e R s m args below meth c H locs cells slots Q g) (xI D ad0 cA0 n0 sc A s) m sad (xmaxL id) mc ms x (pc + xilen (.if_icmp cn off)) k) : xGo (fun H locs cells slots g => W p l e R s m args below meth c H locs cells slots Q g) (xI D ad0 cA0 n0 sc A s) m sad (xmaxL id) mc ms x pc (xins J C (xown id) id lv pc (.if_icmp cn off) k) := by
  intro ad cA w H locs cells slots ls L st b hI hL hs hc hb h
  obtain ⟨hx, hcc, hr, hml, hown, hts, hlk, hK, hin, hst, hA, hRf, hRl, hRc, hRs, hN⟩ := cx
  have hd := xdec h1 rfl
  dsimp only [xins] at h
  have ht : (pc : Int) + off = (xtg pc off : Nat) := (Int.toNat_of_nonneg (of_decide_eq_true h2)).symm
  split at h
  · rename_i y z st'
    cases cn <;> dsimp only [xif] at h
    · exact lv_icmp_eq hx hcc hd ht (fun q => by rw [if_pos q] at h; exact HJ _ ad cA w H locs cells slots ls L st' b hI hL (xs_tl (xs_tl hs)) hc hb h) (fun q => by rw [if_neg q] at h; exact Hk ad cA w H locs cells slots ls L st' b hI hL (xs_tl (xs_tl hs)) hc hb h)
    · exact lv_icmp_ne hx hcc hd ht (fun q => by rw [if_neg q] at h; exact HJ _ ad cA w H locs cells slots ls L st' b hI hL (xs_tl (xs_tl hs)) hc hb h) (fun q => by rw [if_pos q] at h; exact Hk ad cA w H locs cells slots ls L st' b hI hL (xs_tl (xs_tl hs)) hc hb h)
    · exact lv_icmp_lt hx hcc hd ht (fun q => by rw [if_pos q] at h; exact HJ _ ad cA w H locs cells slots ls L st' b hI hL (xs_tl (xs_tl hs)) hc hb h) (fun q => by rw [if_neg q] at h; exact Hk ad cA w H locs cells slots ls L st' b hI hL (xs_tl (xs_tl hs)) hc hb h)
    · exact lv_icmp_ge hx hcc hd ht (fun q => by rw [if_pos q] at h; exact HJ _ ad cA w H locs cells slots ls L st' b hI hL (xs_tl (xs_tl hs)) hc hb h) (fun q => by rw [if_neg q] at h; exact Hk ad cA w H locs cells slots ls L st' b hI hL (xs_tl (xs_tl hs)) hc hb h)
    · exact lv_icmp_gt hx hcc hd ht (fun q => by rw [if_pos q] at h; exact HJ _ ad cA w H locs cells slots ls L st' b hI hL (xs_tl (xs_tl hs)) hc hb h) (fun q => by rw [if_neg q] at h; exact Hk ad cA w H locs cells slots ls L st' b hI hL (xs_tl (xs_tl hs)) hc hb h)
    · exact lv_icmp_le hx hcc hd ht (fun q => by rw [if_pos q] at h; exact HJ _ ad cA w H locs cells slots ls L st' b hI hL (xs_tl (xs_tl hs)) hc hb h) (fun q => by rw [if_neg q] at h; exact Hk ad cA w H locs cells slots ls L st' b hI hL (xs_tl (xs_tl hs)) hc hb h)
  · cases h

theorem xi_ifnull {off : Int} (cx : xCx p R s m args meth c D sad sc A id lv mc ms) (h1 : xci1 id pc (.ifnull off) = true) (h2 : xci2 id pc (.ifnull off) = true) (HJ : ∀ t, xGo (fun H locs cells slots g => W p l e R s m args below meth c H locs cells slots Q g) (xI D ad0 cA0 n0 sc A s) m sad (xmaxL id) mc ms x t (J t)) (Hk : xGo (fun H locs cells slots g => W p l e R s m args below meth c H locs cells slots Q g) (xI D ad0 cA0 n0 sc A s) m sad (xmaxL id) mc ms x (pc + xilen (.ifnull off)) k) : xGo (fun H locs cells slots g => W p l e R s m args below meth c H locs cells slots Q g) (xI D ad0 cA0 n0 sc A s) m sad (xmaxL id) mc ms x pc (xins J C (xown id) id lv pc (.ifnull off) k) := by
  intro ad cA w H locs cells slots ls L st b hI hL hs hc hb h
  obtain ⟨hx, hcc, hr, hml, hown, hts, hlk, hK, hin, hst, hA, hRf, hRl, hRc, hRs, hN⟩ := cx
  have hd := xdec h1 rfl
  dsimp only [xins] at h
  have ht : (pc : Int) + off = (xtg pc off : Nat) := (Int.toNat_of_nonneg (of_decide_eq_true h2)).symm
  split at h
  · rename_i v st'
    cases v with
    | null => exact lv_ifnullN hx hcc hd ht (HJ _ ad cA w H locs cells slots ls L st' b hI hL (xs_tl hs) hc hb h)
    | ref a => exact lv_ifnull hx hcc hd (Hk ad cA w H locs cells slots ls L st' b hI hL (xs_tl hs) hc hb h)
    | _ => cases h
  · cases h

theorem xi_ifnonnull {off : Int} (cx : xCx p R s m args meth c D sad sc A id lv mc ms) (h1 : xci1 id pc (.ifnonnull off) = true) (h2 : xci2 id pc (.ifnonnull off) = true) (HJ : ∀ t, xGo (fun H locs cells slots g => W p l e R s m args below meth c H locs cells slots Q g) (xI D ad0 cA0 n0 sc A s) m sad (xmaxL id) mc ms x t (J t)) (Hk : xGo (fun H locs cells slots g => W p l e R s m args below meth c H locs cells slots Q g) (xI D ad0 cA0 n0 sc A s) m sad (xmaxL id) mc ms x (pc + xilen (.ifnonnull off)) k) : xGo (fun H locs cells slots g => W p l e R s m args below meth c H locs cells slots Q g) (xI D ad0 cA0 n0 sc A s) m sad (xmaxL id) mc ms x pc (xins J C (xown id) id lv pc (.ifnonnull off) k) := by
  intro ad cA w H locs cells slots ls L st b hI hL hs hc hb h
  obtain ⟨hx, hcc, hr, hml, hown, hts, hlk, hK, hin, hst, hA, hRf, hRl, hRc, hRs, hN⟩ := cx
  have hd := xdec h1 rfl
  dsimp only [xins] at h
  have ht : (pc : Int) + off = (xtg pc off : Nat) := (Int.toNat_of_nonneg (of_decide_eq_true h2)).symm
  split at h
  · rename_i v st'
    cases v with
    | null => exact lv_ifnonnullN hx hcc hd (Hk ad cA w H locs cells slots ls L st' b hI hL (xs_tl hs) hc hb h)
    | ref a => exact lv_ifnonnull hx hcc hd ht (HJ _ ad cA w H locs cells slots ls L st' b hI hL (xs_tl hs) hc hb h)
    | _ => cases h
  · cases h

end XINS
