def R_law : String := "SignBenchLaw"
def lw_P (b : Addr) (xs : List Int32) (args : Array Value) (s : State) : Prop := args = #[.ref b] ∧ s.IntsAt b xs ∧ xs.length ≤ 2560 ∧ (Jvm.Cond.and given_1 narrow_1).before args s = true
def lw_Q (_ : Array Value) (s : State) (o : Outcome) (t : State) : Prop := o = .returned (some (.int 1)) ∧ Framed s o t [] 600000 7302250
def lw_Z (below : List Frame) (a : Array Value) (s : State) : State → Prop := fun t => ∃ o, t.status = .running ∧ Ended t below o ∧ lw_Q a s o t
/-- the law's own end, with 1 on the stack, nothing written that was there before, its room as the claim has it -/
theorem lw_ret {p : Program} {l : Launch} {e : Env} {s : State} {m : MethodId} {below : List Frame} {meth : Method} {c : Code} {b : Nat} (hx : p.tables.exec = Jvm.exec) (hb : c.code = code) (hr : meth.sig.returnType = ret) (hlocks : meth.locks = false) {pc : Nat} {H : Heap} {ls : Array Slot} (hdg : decode code pc = .ok (.ireturn, 1)) : W p l e room_1 s m #[Value.ref b] below meth c H [] 600000 7302250 (lw_Z below #[Value.ref b] s) (F0 m pc ls [.int 1]) := by
  intro T hT X
  obtain ⟨fs, hret, hrun, hended, hW, hframe⟩ := X.leave (v := some (.int 1)) (hlocks := hlocks) (fun h => by rw [hr] at h; cases h)
  have hmeth' : T.vm.method? m = some meth := X.method'
  refine ⟨T.setFrames fs, ?_, .returned (some (.int 1)), hrun, hended, rfl, ⟨_, rfl⟩, hW, hframe⟩
  jvm_step X.here [X.here.top, hx, hb, hdg, hmeth', hr, ret, narrow_b1]
  (try refine ⟨rfl, ?_⟩); (try refine ⟨rfl, ?_⟩)
  first | (intro acts; rw [hret _ acts rfl rfl rfl]) | rw [hret _ _ rfl rfl rfl]
  exact Steps.refl _
/-- what holds at the law's entry: the machine, the code, the tables' words (any of lw_tbl by 'hts w (by decide +kernel)'), the script of L ints xs at the cell b, what the Statement gives of the start (any of its parts by flat_of_before) -/
def lw_At (p : Program) (s : State) (m : MethodId) (meth : Method) (c : Code) (b L : Nat) (xs : Nat → Int32) : Prop :=
  p.tables.exec = Jvm.exec ∧ c.code = code ∧ meth.sig.returnType = ret ∧ c.maxLocals = 4 ∧ s.vm.findClass R_law = some m.cls ∧ (∀ w ∈ lw_tbl, w.before #[Value.ref b] s = true) ∧ va_X b L xs s s.heap ∧ b < s.heap.size ∧ meth.locks = false ∧ (Jvm.Cond.and given_1 narrow_1).before #[Value.ref b] s = true
/-! ===== the law: the claim out of a run of the interpreter (own work) ===== -/
def xw0 (L : Nat) (xs : Nat → Int32) : XW := (0, fun _ => 0, fun _ _ => 0, fun _ _ => none, fun _ _ => 0, fun _ _ => 0, fun _ _ => none, (L, xs))
section XLAW
variable {p : Program} {e : Env} {s : State} {m : MethodId} {below : List Frame} {meth : Method} {c : Code}
theorem x_lret {l : Launch} {b : Nat} {D : va_G} {sad ad0 : Nat → Nat} {cA0 : Nat → ClassId} {sc : Nat × (Nat → Int32)} {w1 : XW} {A : Nat → Prop} (hA2 : ∀ q, A q → s.heap.size ≤ q) (cx : xCx p room_1 s m #[Value.ref b] meth c D sad sc A 172 0 600000 7302250) (J : Nat → XL → List Value → XB → XW → Option XR) (C : Nat → Nat → List Value → XW → Option XR) (i : Instr) (pc : Nat) (k : XK) (hr0 : xisret i = true) (h1 : xci1 172 pc i = true) (h2 : xci2 172 pc i = true) :
    xGo (fun H locs cells slots g => W p l e room_1 s m #[Value.ref b] below meth c H locs cells slots (lw_Z below #[Value.ref b] s) g) (xI D ad0 cA0 0 sc A s) m sad (xmaxL 172) 600000 7302250 (.int 1, w1) pc (xins J C (xown 172) 172 0 pc i k) := by
  intro ad cA w H locs cells slots ls L st b' hI hL hs hc hb h
  obtain ⟨hx, hcc, hr, hml, hown, hts, hlk, hK, hin, hst, hA, hRf, hRl, hRc, hRs, hN⟩ := cx
  refine W.widen (k := 600000) (n := 7302250) (by omega) (by omega) ?_
  refine va_forget (fun q hq => hA2 _ (hI.2.2.2.2.1.2.2 q hq)) ?_
  cases i with
  | ireturn =>
    have hd := xdec h1 rfl
    dsimp only [xins] at h
    split at h
    · rename_i z
      have h' : xbz z w = some (.int 1, w1) := h
      have hz : z = 1 := by
        unfold xbz at h'
        split at h'
        · cases h'; rfl
        · cases h'
      subst hz
      exact lw_ret hx hcc hr hlk hd
    · cases h
  | lreturn => exact absurd (show false = true from h2) Bool.false_ne_true
  | areturn => exact absurd (show false = true from h2) Bool.false_ne_true
  | return_ => exact absurd (show false = true from h2) Bool.false_ne_true
  | _ => cases hr0
theorem xinst : ∀ ci, ci < 8 → xmem (.instantiable (xcn ci) (xNf ci)) = true := by decide +kernel
theorem xflt0 : ∀ j, j < 14 → Cond.eq (Term.elem (Term.static "SignBench" "COUNTS" "[J") (.int (Int32.ofNat j))) (.long (lI (xsl j))) ∈ flatC (Jvm.Cond.and given_1 narrow_1) := by decide +kernel
theorem xflt1 : ∀ j, j < 4 → Cond.eq (Term.elem (Term.static "SignBench$Loops" "DOWN" "[I") (.int (Int32.ofNat j))) (.int (iI (xsi 1 j))) ∈ flatC (Jvm.Cond.and given_1 narrow_1) := by decide +kernel
theorem xflt2 : ∀ j, j < 4 → Cond.eq (Term.elem (Term.static "SignBench$Loops" "ACROSS" "[I") (.int (Int32.ofNat j))) (.int (iI (xsi 2 j))) ∈ flatC (Jvm.Cond.and given_1 narrow_1) := by decide +kernel
theorem xflt3 : ∀ j, j < 7 → Cond.eq (Term.elem (Term.static "SignBench$Joinings" "STARTS" "[I") (.int (Int32.ofNat j))) (.int (iI (xsi 3 j))) ∈ flatC (Jvm.Cond.and given_1 narrow_1) := by decide +kernel
theorem xfla0 : Cond.arrayOf (Term.static "SignBench" "COUNTS" "[J") .long ∈ flatC (Jvm.Cond.and given_1 narrow_1) ∧ Cond.eq (Term.length (Term.static "SignBench" "COUNTS" "[J")) (.int (Int32.ofNat 14)) ∈ flatC (Jvm.Cond.and given_1 narrow_1) := by decide +kernel
theorem xfla1 : Cond.arrayOf (Term.static "SignBench$Loops" "DOWN" "[I") .int ∈ flatC (Jvm.Cond.and given_1 narrow_1) ∧ Cond.eq (Term.length (Term.static "SignBench$Loops" "DOWN" "[I")) (.int (Int32.ofNat 4)) ∈ flatC (Jvm.Cond.and given_1 narrow_1) := by decide +kernel
theorem xfla2 : Cond.arrayOf (Term.static "SignBench$Loops" "ACROSS" "[I") .int ∈ flatC (Jvm.Cond.and given_1 narrow_1) ∧ Cond.eq (Term.length (Term.static "SignBench$Loops" "ACROSS" "[I")) (.int (Int32.ofNat 4)) ∈ flatC (Jvm.Cond.and given_1 narrow_1) := by decide +kernel
theorem xfla3 : Cond.arrayOf (Term.static "SignBench$Joinings" "STARTS" "[I") .int ∈ flatC (Jvm.Cond.and given_1 narrow_1) ∧ Cond.eq (Term.length (Term.static "SignBench$Joinings" "STARTS" "[I")) (.int (Int32.ofNat 7)) ∈ flatC (Jvm.Cond.and given_1 narrow_1) := by decide +kernel
theorem xlays : ∀ t, t < 4 → Cond.laysStatic (xstC t).1 (xstC t).2.1 (xstC t).2.2 ∈ lw_tbl ∧ Cond.initialized (xstC t).1 ∈ lw_tbl := by decide +kernel
theorem xaow : Cond.arrayOver (.object "SignBench$Table") ∈ lw_tbl := by decide +kernel
theorem whole_run {l : Launch} {b L : Nat} {xs : Nat → Int32} (C0 : lw_At p s m meth c b L xs) {w1 : XW} (hrun : xm 172 0 [.retAddr 4] (xw0 L xs) = some (.int 1, w1)) : W p l e room_1 s m #[Value.ref b] below meth c s.heap [] 0 0 (lw_Z below #[Value.ref b] s) (entryFrame m ([Value.ref b] : List Value).toArray 4) := by
  obtain ⟨hx, hb, hr, hml, hown, hts, hX, hbl, hlocks, hgv⟩ := id C0
  have hF := flat_of_before _ hgv
  have hA' : ∀ a : Nat, a < s.heap.size → ¬ (fun q : Nat => s.heap.size ≤ q) a := fun a h => Nat.not_le.mpr h
  have hKn : ∀ ci, ci < 8 → ∃ (cC : ClassId) (iS : Nat → Nat), u_Kn s (xcn ci) (xT ci) (xNf ci) cC iS := fun ci h => u_known (ws := xtb) (n := xNf ci) (fun w hw => hts w (List.mem_filter.mp hw).1) (xcl_in0 ci h) (hts _ (List.mem_filter.mp (xmem_in (xinst ci h))).1)
  obtain ⟨f, hf⟩ : ∃ f : Nat → ClassId × (Nat → Nat), ∀ ci, ci < 8 → u_Kn s (xcn ci) (xT ci) (xNf ci) (f ci).1 (f ci).2 := by
    have : ∀ ci, ∃ q : ClassId × (Nat → Nat), ci < 8 → u_Kn s (xcn ci) (xT ci) (xNf ci) q.1 q.2 := fun ci => by
      by_cases h : ci < 8
      · obtain ⟨cC, iS, hk⟩ := hKn ci h
        exact ⟨(cC, iS), fun _ => hk⟩
      · obtain ⟨cC, iS, hk⟩ := hKn 0 (by decide)
        exact ⟨(cC, iS), fun q => absurd q h⟩
    exact ⟨fun ci => Classical.choose (this ci), fun ci h => Classical.choose_spec (this ci) h⟩
  have hK : va_K (fun k => (f k).1, fun k => (f k).2) vwCl [] s := by
    refine ⟨fun k q hq => ?_, fun k q h => by simp at h⟩
    rcases Nat.lt_or_ge k 8 with h | h
    · rw [xcl_at h] at hq
      cases hq
      exact hf k h
    · rw [List.getElem?_eq_none (show vwCl.length ≤ k from h)] at hq
      cases hq
  obtain ⟨t0, e0, hT0⟩ := va_Tof (args := #[Value.ref b]) (s := s) (tm := Term.static "SignBench" "COUNTS" "[J") (ty := .long) (N := 14) (f := fun j => .long (lI (xsl j))) (A := fun q : Nat => s.heap.size ≤ q) (by decide) (hF _ xfla0.1) (va_eqt (hF _ xfla0.2)) (fun j hj => va_eqtl (hF _ (xflt0 j hj))) hA'
  obtain ⟨t1, e1, hT1⟩ := va_Tof (args := #[Value.ref b]) (s := s) (tm := Term.static "SignBench$Loops" "DOWN" "[I") (ty := .int) (N := 4) (f := fun j => .int (iI (xsi 1 j))) (A := fun q : Nat => s.heap.size ≤ q) (by decide) (hF _ xfla1.1) (va_eqt (hF _ xfla1.2)) (fun j hj => va_eqt (hF _ (xflt1 j hj))) hA'
  obtain ⟨t2, e2, hT2⟩ := va_Tof (args := #[Value.ref b]) (s := s) (tm := Term.static "SignBench$Loops" "ACROSS" "[I") (ty := .int) (N := 4) (f := fun j => .int (iI (xsi 2 j))) (A := fun q : Nat => s.heap.size ≤ q) (by decide) (hF _ xfla2.1) (va_eqt (hF _ xfla2.2)) (fun j hj => va_eqt (hF _ (xflt2 j hj))) hA'
  obtain ⟨t3, e3, hT3⟩ := va_Tof (args := #[Value.ref b]) (s := s) (tm := Term.static "SignBench$Joinings" "STARTS" "[I") (ty := .int) (N := 7) (f := fun j => .int (iI (xsi 3 j))) (A := fun q : Nat => s.heap.size ≤ q) (by decide) (hF _ xfla3.1) (va_eqt (hF _ xfla3.2)) (fun j hj => va_eqt (hF _ (xflt3 j hj))) hA'
  have hT4 : va_T .int b L (fun j => .int (xs j)) (fun q : Nat => s.heap.size ≤ q) s s.heap := by
    obtain ⟨scr, g1, g2, g3, g4, g5⟩ := hX
    exact ⟨scr, g1, g2, g3, Nat.le_of_eq g4.symm, by rw [g4], g5, hA' b hbl⟩
  let sad : Nat → Nat := fun t => match t with
    | 0 => t0
    | 1 => t1
    | 2 => t2
    | 3 => t3
    | _ => b
  have hst : xSt sad (L, xs) (fun q : Nat => s.heap.size ≤ q) s s.heap := by
    refine ⟨fun t ht => ?_, hT0, fun t h0 ht => ?_, hT4, va_AO.of (hts _ xaow)⟩
    · match t, ht with
      | 0, ht => exact va_Zof (hts _ (xlays 0 ht).1) (hts _ (xlays 0 ht).2) e0 hA'
      | 1, ht => exact va_Zof (hts _ (xlays 1 ht).1) (hts _ (xlays 1 ht).2) e1 hA'
      | 2, ht => exact va_Zof (hts _ (xlays 2 ht).1) (hts _ (xlays 2 ht).2) e2 hA'
      | 3, ht => exact va_Zof (hts _ (xlays 3 ht).1) (hts _ (xlays 3 ht).2) e3 hA'
      | k + 4, ht => exact absurd ht (by omega)
    · match t, h0, ht with
      | 1, h0, ht => exact hT1
      | 2, h0, ht => exact hT2
      | 3, h0, ht => exact hT3
      | k + 4, h0, ht => exact absurd ht (by omega)
  have cx : xCx p room_1 s m #[Value.ref b] meth c (fun k => (f k).1, fun k => (f k).2) sad (L, xs) (fun q : Nat => s.heap.size ≤ q) 172 0 600000 7302250 := by
    refine ⟨hx, hb, hr, hml, hown, fun w hw => hts w (List.mem_filter.mp hw).1, hlocks, hK, fun h => absurd h (by decide), hst, fun q h => h, by decide, by decide, rfl, rfl, fun w hw hn => ?_⟩
    have h0 := hts w hw
    cases w <;> first | exact va_Nw.of rfl h0 | cases hn
  obtain ⟨fu, hfu⟩ := xm_fuel hrun
  have hI : xI (fun k => (f k).1, fun k => (f k).2) (fun _ => 0) (fun _ => m.cls) 0 (L, xs) (fun q : Nat => s.heap.size ≤ q) s (fun _ => 0) (fun _ => m.cls) (xw0 L xs) s.heap [] := by
    refine ⟨fun k q h => ?_, ⟨fun i j p q h => ?_, fun k q h => ?_⟩, fun a ha => absurd ha (Nat.not_lt_zero _), ⟨fun a f q h => (by cases h), fun a j q h => (by cases h)⟩, va_S.rf, rfl, Nat.le_refl _, fun a ha => absurd ha (Nat.not_lt_zero _)⟩
    all_goals (exact absurd h (by simp [xws, xw0, xn]))
  have hvs : ∀ v ∈ [Value.retAddr 4], xvs (xw0 L xs) v := by
    intro v hv
    rw [List.mem_singleton.mp hv]
    exact (by decide : 4 < 5)
  rw [lg_entry_eq]
  exact x_body cx xchk_law (fun f d lw As u y hd hrk hVu hAu hcu hC => x_sound l _ (xrnk d lw + 1) d lw (Nat.lt_succ_self _) hd f As u y hVu hAu hcu hC) (fun J C i pc k h0 h1 h2 => x_lret (fun q h => h) cx J C i pc k h0 h1 h2) fu 0 (fun _ => 0) (fun _ => m.cls) (xw0 L xs) s.heap [] 0 0 _ (xentry 172 [.retAddr 4]) [] (xbud 172) hI (x_entry (id := 172) (As := [.retAddr 4]) hvs (by decide)) (fun _ z => by cases z) rfl rfl hfu
end XLAW
