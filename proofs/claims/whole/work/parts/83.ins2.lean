/-! ===== fields, arrays, new cells ===== -/
theorem xlk {α : Type} {k : Nat} {v : α} : ∀ {l : List (Nat × α)}, List.lookup k l = some v → (k, v) ∈ l := by
  intro l
  induction l with
  | nil => intro h; cases h
  | cons q l ih =>
    intro h
    obtain ⟨a, b⟩ := q
    rw [List.lookup_cons] at h
    split at h
    · rename_i hk
      cases h
      rw [eq_of_beq hk]
      exact List.mem_cons_self
    · exact List.mem_cons_of_mem _ (ih h)
theorem xcl_at {ci : Nat} (h : ci < 8) : vwCl[ci]? = some (xcn ci, xT ci, xNf ci) := by
  rcases (show ci = 0 ∨ ci = 1 ∨ ci = 2 ∨ ci = 3 ∨ ci = 4 ∨ ci = 5 ∨ ci = 6 ∨ ci = 7 by omega) with rfl | rfl | rfl | rfl | rfl | rfl | rfl | rfl <;> rfl
set_option maxRecDepth 20000 in
theorem xcl_in1 : ∀ ci, ci < 8 → ∀ w ∈ u_ws (xcn ci) (xT ci) (xNf ci), xmem w = true := by decide +kernel
theorem xcl_in0 (ci : Nat) (h : ci < 8) : ∀ w ∈ u_ws (xcn ci) (xT ci) (xNf ci), w ∈ xtb := fun w hw => xmem_in (xcl_in1 ci h w hw)
theorem xcl_ty0 : ∀ ci, ci < 8 → ∀ k, k < xNf ci → parseFieldDescriptor (xT ci k).2.2.1 = some (xty ci k) := by decide +kernel
theorem xcl_nm0 : ∀ ci, ci < 8 → ∀ a, a < xNf ci → ∀ b, b < xNf ci → a ≠ b → (xT ci a).2.1 ≠ (xT ci b).2.1 := by decide +kernel
def xftok (ci f : Nat) : Bool := match xty ci f with
  | .int => xfint ci f
  | .object _ => !xfint ci f
  | .array _ => !xfint ci f
  | _ => false
theorem xft0 : ∀ ci, ci < 8 → ∀ f, f < xNf ci → xftok ci f = true := by decide +kernel
theorem xft_int {ci f : Nat} (h : ci < 8) (hf : f < xNf ci) (hi : xfint ci f = true) : xty ci f = .int := by
  have h0 := xft0 ci h f hf
  unfold xftok at h0
  split at h0
  · assumption
  · rw [hi] at h0; cases h0
  · rw [hi] at h0; cases h0
  · cases h0
theorem xft_ref {ci f : Nat} (h : ci < 8) (hf : f < xNf ci) (hi : xfint ci f = false) (a : Nat) : narrow (xty ci f) (.ref a) = .ref a ∧ fits (xty ci f) (.ref a) = true ∧ defaultValue (xty ci f) = .null := by
  have h0 := xft0 ci h f hf
  unfold xftok at h0
  split at h0
  · rw [hi] at h0; cases h0
  · rename_i q; rw [q]; exact ⟨rfl, rfl, rfl⟩
  · rename_i q; rw [q]; exact ⟨rfl, rfl, rfl⟩
  · cases h0
def xfldok (c : Nat) (e : Nat × (Nat × Nat)) : Bool := Nat.blt e.2.1 8 && Nat.blt e.2.2 (xNf e.2.1) &&
  (xmem (.fieldLink (xcn c) e.1 (xT e.2.1 e.2.2).1 (xT e.2.1 e.2.2).2.1 (xT e.2.1 e.2.2).2.2.1) || (xmemN (.fieldLinkNest (xcn c) e.1 (xT e.2.1 e.2.2).1 (xT e.2.1 e.2.2).2.1 (xT e.2.1 e.2.2).2.2.1 "SignBench") && decide ((xT e.2.1 e.2.2).1 ≠ xcn c)))
set_option maxRecDepth 20000 in
theorem xfld_ok0 : ∀ c, c < 11 → ∀ e ∈ xfldT.getD c [], xfldok c e = true := by decide +kernel
theorem xT_len {α : Type} {T : List (List (Nat × α))} {c idx : Nat} {v : α} (h : List.lookup idx (T.getD c []) = some v) : c < T.length := by
  rcases Nat.lt_or_ge c T.length with q | q
  · exact q
  · rw [List.getD_eq_getElem?_getD, List.getElem?_eq_none q] at h
    cases h
theorem xfld_ok {c idx ci f : Nat} (h : xfld c idx = some (ci, f)) : ci < 8 ∧ f < xNf ci ∧ (Cond.fieldLink (xcn c) idx (xT ci f).1 (xT ci f).2.1 (xT ci f).2.2.1 ∈ xtb ∨ (xmemN (Cond.fieldLinkNest (xcn c) idx (xT ci f).1 (xT ci f).2.1 (xT ci f).2.2.1 "SignBench") = true ∧ (xT ci f).1 ≠ xcn c)) := by
  have h0 := xfld_ok0 c (xT_len h) _ (xlk h)
  simp only [xfldok, Bool.and_eq_true, Bool.or_eq_true, decide_eq_true_eq] at h0
  exact ⟨Nat.le_of_ble_eq_true h0.1.1, Nat.le_of_ble_eq_true h0.1.2, h0.2.imp xmem_in (fun q => q)⟩
def xstaok (c : Nat) (e : Nat × Nat) : Bool := Nat.blt e.2 4 && xmem (.fieldLink (xcn c) e.1 (xstC e.2).1 (xstC e.2).2.1 (xstC e.2).2.2)
set_option maxRecDepth 20000 in
theorem xsta_ok0 : ∀ c, c < 11 → ∀ e ∈ xstaT.getD c [], xstaok c e = true := by decide +kernel
theorem xsta_ok {c idx t : Nat} (h : xsta c idx = some t) : t < 4 ∧ Cond.fieldLink (xcn c) idx (xstC t).1 (xstC t).2.1 (xstC t).2.2 ∈ xtb := by
  have h0 := xsta_ok0 c (xT_len h) _ (xlk h)
  simp only [xstaok, Bool.and_eq_true] at h0
  exact ⟨Nat.le_of_ble_eq_true h0.1, xmem_in h0.2⟩
def xldcok (c : Nat) (e : Nat × Int) : Bool := xmem (.constantLong (xcn c) e.1 (lI e.2))
set_option maxRecDepth 20000 in
theorem xldc_ok0 : ∀ c, c < 11 → ∀ e ∈ xldcT.getD c [], xldcok c e = true := by decide +kernel
set_option maxRecDepth 20000 in
theorem xldc_ok {c idx : Nat} {z : Int} (h : xldc c idx = some z) : Cond.constantLong (xcn c) idx (lI z) ∈ xtb := xmem_in (xldc_ok0 c (xT_len h) _ (xlk h))
def xnwok (c : Nat) (e : Nat × (Nat × Nat)) : Bool := Nat.blt e.2.1 8 && (e.2.2 == xNf e.2.1) && xmem (.classLink (xcn c) e.1 (xcn e.2.1)) && xmem (.instantiable (xcn e.2.1) (xNf e.2.1)) && xmem (.initialized (xcn e.2.1))
set_option maxRecDepth 20000 in
theorem xnw_ok0 : ∀ c, c < 11 → ∀ e ∈ xnwT.getD c [], xnwok c e = true := by decide +kernel
theorem xnw_ok {c idx ci N : Nat} (h : xnw c idx = some (ci, N)) : ci < 8 ∧ N = xNf ci ∧ Cond.classLink (xcn c) idx (xcn ci) ∈ xtb ∧ Cond.instantiable (xcn ci) (xNf ci) ∈ xtb ∧ Cond.initialized (xcn ci) ∈ xtb := by
  have h0 := xnw_ok0 c (xT_len h) _ (xlk h)
  simp only [xnwok, Bool.and_eq_true, beq_iff_eq] at h0
  exact ⟨Nat.le_of_ble_eq_true h0.1.1.1.1, h0.1.1.1.2, xmem_in h0.1.1.2, xmem_in h0.1.2, xmem_in h0.2⟩
theorem xak_cls0 : ∀ a, a < 43 → xcls a < 8 → xak a = 0 := by decide +kernel
theorem xcls_far {a : Nat} (h : 43 ≤ a) : xcls a = 99 := by
  unfold xcls
  rw [List.getD_eq_getElem?_getD, List.getElem?_eq_none (by exact h)]
  rfl
theorem xak_cls {a ci : Nat} (h : xok a ci = true) (hc : ci < 8) : xcls a = ci ∧ xak a = 0 := by
  have h0 : xcls a = ci := eq_of_beq h
  refine ⟨h0, ?_⟩
  rcases Nat.lt_or_ge a 43 with q | q
  · exact xak_cls0 a q (by omega)
  · rw [xcls_far q] at h0; omega
theorem xIF_pF (w : XW) (a f : Nat) (z : Int32) : xIF (xpF w a f z) = va_up (xIF w) a (va_up (xIF w a) f z) := rfl
theorem xcell_pF {ad : Nat → Nat} {cA : Nat → ClassId} {w : XW} {a f : Nat} {z : Int32} {q : Nat} (h : q ≠ a) : xcell ad cA (xpF w a f z) q = xcell ad cA w q := by
  have e : xIF (xpF w a f z) q = xIF w q := by rw [xIF_pF]; exact if_neg h
  unfold xcell xfs xfv
  rw [e]
  rfl
theorem xcell_pR {ad : Nat → Nat} {cA : Nat → ClassId} {w : XW} {a f : Nat} {z : Option Nat} {q : Nat} (h : q ≠ a) : xcell ad cA (xpR w a f z) q = xcell ad cA w q := by
  have e : xRF (xpR w a f z) q = xRF w q := if_neg h
  unfold xcell xfs xfv
  rw [e]
  rfl
theorem xmapset {N f : Nat} {g g' : Nat → Value} {v : Value} (h : ∀ j, j ≠ f → g' j = g j) (hf : g' f = v) : ((List.range N).map g).set f v = (List.range N).map g' := by
  apply List.ext_getElem?
  intro k
  rw [List.getElem?_set, List.getElem?_map, List.getElem?_map]
  by_cases hk : k < N
  · rw [List.getElem?_range hk]
    by_cases e : f = k
    · subst e
      rw [if_pos rfl, if_pos (by simpa using hk)]
      exact congrArg some hf.symm
    · rw [if_neg e]
      exact congrArg some (h k (fun q => e q.symm)).symm
  · have e0 : (List.range N)[k]? = none := List.getElem?_eq_none (by simpa using hk)
    rw [e0]
    by_cases e : f = k
    · subst e
      rw [if_pos rfl, if_neg (by simpa using hk)]
      rfl
    · rw [if_neg e]
      rfl
theorem xcell_obj {ad : Nat → Nat} {cA : Nat → ClassId} {w : XW} {a ci : Nat} (hc : xcls a = ci) (h0 : xak a = 0) : xcell ad cA w a = .inr (ci, xfs ad w a ci) := by
  unfold xcell
  rw [h0, hc]
  rfl
theorem xfs_at {ad : Nat → Nat} {w : XW} {a ci f : Nat} (hf : f < xNf ci) : (xfs ad w a ci)[f]? = some (xfv ad w a ci f) := by
  unfold xfs
  rw [List.getElem?_map, List.getElem?_range hf]
  rfl
theorem xfs_len (ad : Nat → Nat) (w : XW) (a ci : Nat) : (xfs ad w a ci).length = xNf ci := by simp [xfs]
theorem xfs_pF {ad : Nat → Nat} {w : XW} {a ci f : Nat} {z : Int32} (hi : xfint ci f = true) : (xfs ad w a ci).set f (.int z) = xfs ad (xpF w a f z) a ci := by
  refine xmapset (fun j hj => ?_) ?_
  · unfold xfv
    split
    · rw [xIF_pF]
      simp only [va_up, if_true, hj, if_false]
    · rfl
  · unfold xfv
    rw [hi, xIF_pF]
    simp [va_up]
theorem xfs_pR {ad : Nat → Nat} {w : XW} {a ci f : Nat} {q : Nat} (hi : xfint ci f = false) : (xfs ad w a ci).set f (.ref (ad q)) = xfs ad (xpR w a f (some q)) a ci := by
  have e : xRF (xpR w a f (some q)) = va_up (xRF w) a (va_up (xRF w a) f (some q)) := rfl
  refine xmapset (fun j hj => ?_) ?_
  · unfold xfv
    split
    · rfl
    · rw [e]
      simp only [va_up, if_true, hj, if_false]
  · unfold xfv
    rw [hi, e]
    simp [va_up, va_rf]
theorem xVR_pR {w : XW} {a f q : Nat} (h : xVR w) (hq : q < xn w) : xVR (xpR w a f (some q)) := by
  have e : xRF (xpR w a f (some q)) = va_up (xRF w) a (va_up (xRF w a) f (some q)) := rfl
  refine ⟨fun a' f' q' h' => ?_, h.2⟩
  rw [e] at h'
  simp only [va_up] at h'
  split at h'
  · simp only [va_up] at h'
    split at h'
    · cases h'; exact hq
    · exact h.1 _ _ _ h'
  · exact h.1 _ _ _ h'
theorem xKa {D : va_G} {s : State} {cA : ClassId} {ty : FieldType} (hK : va_K D vwCl [] s) (h : ArrOfT s cA ty ∧ va_RA s cA ty) : va_K D vwCl [(cA, ty)] s := ⟨hK.1, fun k q hq => by
  match k, hq with
  | 0, hq => cases hq; exact h
  | k + 1, hq => cases hq⟩
theorem xoa_in {w : XW} {a t : Nat} {i : Int32} (h : xoa w a t i = true) : xak a = t ∧ vp_in i (xln w a) := by
  unfold xoa at h
  simp only [Bool.and_eq_true] at h
  exact ⟨eq_of_beq h.1, xvp h.2⟩
theorem xcell_i {ad : Nat → Nat} {cA : Nat → ClassId} {w : XW} {a : Nat} (h : xak a = 1) : xcell ad cA w a = .inl (cA a, xln w a, .inl (xIA w a)) := by unfold xcell; rw [h]; rfl
theorem xcell_z {ad : Nat → Nat} {cA : Nat → ClassId} {w : XW} {a : Nat} (h : xak a = 2) : xcell ad cA w a = .inl (cA a, xln w a, .inl (xIA w a)) := by unfold xcell; rw [h]; rfl
theorem xcell_l {ad : Nat → Nat} {cA : Nat → ClassId} {w : XW} {a : Nat} (h : xak a = 3) : xcell ad cA w a = .inl (cA a, xln w a, .inr (.inl (xLA w a))) := by unfold xcell; rw [h]; rfl
theorem xcell_q {ad : Nat → Nat} {cA : Nat → ClassId} {w : XW} {a : Nat} (h : xak a = 4) : xcell ad cA w a = .inl (cA a, xln w a, .inr (.inr (.inr (.inr (fun j => (xRA w a j).map ad))))) := by unfold xcell; rw [h]; rfl
theorem xcell_pI {ad : Nat → Nat} {cA : Nat → ClassId} {w : XW} {a k : Nat} {z : Int32} {q : Nat} (h : q ≠ a) : xcell ad cA (xpI w a k z) q = xcell ad cA w q := by
  have e : xIA (xpI w a k z) q = xIA w q := if_neg h
  unfold xcell
  rw [e]
  rfl
theorem xcell_pG {ad : Nat → Nat} {cA : Nat → ClassId} {w : XW} {a : Nat} {g : Nat → Int32} {q : Nat} (h : q ≠ a) : xcell ad cA (xpG w a g) q = xcell ad cA w q := by
  have e : xIA (xpG w a g) q = xIA w q := if_neg h
  unfold xcell
  rw [e]
  rfl
theorem xcell_pL {ad : Nat → Nat} {cA : Nat → ClassId} {w : XW} {a k : Nat} {z : Int64} {q : Nat} (h : q ≠ a) : xcell ad cA (xpL w a k z) q = xcell ad cA w q := by
  have e : xLA (xpL w a k z) q = xLA w q := if_neg h
  unfold xcell
  rw [e]
  rfl
theorem xcell_pA {ad : Nat → Nat} {cA : Nat → ClassId} {w : XW} {a k : Nat} {z : Option Nat} {q : Nat} (h : q ≠ a) : xcell ad cA (xpA w a k z) q = xcell ad cA w q := by
  have e : xRA (xpA w a k z) q = xRA w q := if_neg h
  unfold xcell
  rw [e]
  rfl
