/-! ===== every instruction; a list of them; a method's body ===== -/
def xisret (i : Instr) : Bool := match i with
  | .ireturn => true
  | .lreturn => true
  | .areturn => true
  | .return_ => true
  | _ => false
section XASM
variable {p : Program} {l : Launch} {e : Env} {R : Room} {s : State} {m : MethodId} {args : Array Value} {below : List Frame} {meth : Method} {c : Code} {Q : State → Prop} {D : va_G} {sad ad0 : Nat → Nat} {cA0 : Nat → ClassId} {n0 : Nat} {sc : Nat × (Nat → Int32)} {A : Nat → Prop} {id lv mc ms : Nat} {x : XR}
set_option maxHeartbeats 4000000 in
theorem x_ins {J : Nat → XL → List Value → XB → XW → Option XR} {C : Nat → Nat → List Value → XW → Option XR} {k : XK} {pc : Nat} (cx : xCx p R s m args meth c D sad sc A id lv mc ms) {i : Instr} (h1 : xci1 id pc i = true) (h2 : xci2 id pc i = true) (hnr : xisret i = false) (HJ : ∀ t, xGo (fun H locs cells slots g => W p l e R s m args below meth c H locs cells slots Q g) (xI D ad0 cA0 n0 sc A s) m sad (xmaxL id) mc ms x t (J t)) (HC : xHC l D id lv C) (Hk : xGo (fun H locs cells slots g => W p l e R s m args below meth c H locs cells slots Q g) (xI D ad0 cA0 n0 sc A s) m sad (xmaxL id) mc ms x (pc + xilen i) k) :
    xGo (fun H locs cells slots g => W p l e R s m args below meth c H locs cells slots Q g) (xI D ad0 cA0 n0 sc A s) m sad (xmaxL id) mc ms x pc (xins J C (xown id) id lv pc i k) := by
  cases i with
  | iconst _ => exact xi_iconst cx h1 h2 Hk
  | bipush _ => exact xi_bipush cx h1 h2 Hk
  | sipush _ => exact xi_sipush cx h1 h2 Hk
  | lconst _ => exact xi_lconst cx h1 h2 Hk
  | aconst_null => exact xi_null cx h1 h2 Hk
  | iload _ => exact xi_iload cx h1 h2 Hk
  | iload_n _ => exact xi_iload_n cx h1 h2 Hk
  | lload _ => exact xi_lload cx h1 h2 Hk
  | lload_n _ => exact xi_lload_n cx h1 h2 Hk
  | aload _ => exact xi_aload cx h1 h2 Hk
  | aload_n _ => exact xi_aload_n cx h1 h2 Hk
  | istore _ => exact xi_istore cx h1 h2 Hk
  | istore_n _ => exact xi_istore_n cx h1 h2 Hk
  | lstore _ => exact xi_lstore cx h1 h2 Hk
  | lstore_n _ => exact xi_lstore_n cx h1 h2 Hk
  | astore _ => exact xi_astore cx h1 h2 Hk
  | astore_n _ => exact xi_astore_n cx h1 h2 Hk
  | iinc _ _ => exact xi_iinc cx h1 h2 Hk
  | iadd => exact xi_iadd cx h1 h2 Hk
  | isub => exact xi_isub cx h1 h2 Hk
  | imul => exact xi_imul cx h1 h2 Hk
  | iand => exact xi_iand cx h1 h2 Hk
  | ior => exact xi_ior cx h1 h2 Hk
  | ixor => exact xi_ixor cx h1 h2 Hk
  | ishl => exact xi_ishl cx h1 h2 Hk
  | ishr => exact xi_ishr cx h1 h2 Hk
  | ladd => exact xi_ladd cx h1 h2 Hk
  | lsub => exact xi_lsub cx h1 h2 Hk
  | lmul => exact xi_lmul cx h1 h2 Hk
  | land => exact xi_land cx h1 h2 Hk
  | lor => exact xi_lor cx h1 h2 Hk
  | idiv => exact xi_idiv cx h1 h2 Hk
  | irem => exact xi_irem cx h1 h2 Hk
  | ldiv => exact xi_ldiv cx h1 h2 Hk
  | lrem => exact xi_lrem cx h1 h2 Hk
  | ineg => exact xi_ineg cx h1 h2 Hk
  | i2l => exact xi_i2l cx h1 h2 Hk
  | lshl => exact xi_lshl cx h1 h2 Hk
  | lshr => exact xi_lshr cx h1 h2 Hk
  | lushr => exact xi_lushr cx h1 h2 Hk
  | lcmp => exact xi_lcmp cx h1 h2 Hk
  | dup => exact xi_dup cx h1 h2 Hk
  | pop => exact xi_pop cx h1 h2 Hk
  | ldc2_w _ => exact xi_ldc2 cx h1 h2 Hk
  | getfield _ => exact xi_getfield cx h1 h2 Hk
  | putfield _ => exact xi_putfield cx h1 h2 Hk
  | getstatic _ => exact xi_getstatic cx h1 h2 Hk
  | iaload => exact xi_iaload cx h1 h2 Hk
  | laload => exact xi_laload cx h1 h2 Hk
  | baload => exact xi_baload cx h1 h2 Hk
  | aaload => exact xi_aaload cx h1 h2 Hk
  | iastore => exact xi_iastore cx h1 h2 Hk
  | bastore => exact xi_bastore cx h1 h2 Hk
  | lastore => exact xi_lastore cx h1 h2 Hk
  | aastore => exact xi_aastore cx h1 h2 Hk
  | arraylength => exact xi_arraylength cx h1 h2 Hk
  | new _ => exact xi_new cx h1 h2 Hk
  | newarray _ => exact xi_newarray cx h1 h2 Hk
  | anewarray _ => exact xi_anewarray cx h1 h2 Hk
  | goto _ => exact xi_goto cx h1 h2 HJ Hk
  | ifCond _ _ => exact xi_ifCond cx h1 h2 HJ Hk
  | if_icmp _ _ => exact xi_if_icmp cx h1 h2 HJ Hk
  | ifnull _ => exact xi_ifnull cx h1 h2 HJ Hk
  | ifnonnull _ => exact xi_ifnonnull cx h1 h2 HJ Hk
  | tableswitch _ _ _ _ => exact xi_tableswitch cx h1 h2 HJ
  | lookupswitch _ _ => exact xi_lookupswitch cx h1 h2 HJ
  | invokevirtual _ => exact xi_invokevirtual cx h1 h2 HC Hk
  | invokestatic _ => exact xi_invokestatic cx h1 h2 HC Hk
  | invokespecial _ => exact xi_invokespecial cx h1 h2 HC Hk
  | ireturn => cases hnr
  | lreturn => cases hnr
  | areturn => cases hnr
  | return_ => cases hnr
  | _ => exact fun ad cA w H locs cells slots ls L st b hI hL hs hc hb h => (by cases h)
theorem x_list {J : Nat → XL → List Value → XB → XW → Option XR} {C : Nat → Nat → List Value → XW → Option XR} (cx : xCx p R s m args meth c D sad sc A id lv mc ms) (HJ : ∀ t, xGo (fun H locs cells slots g => W p l e R s m args below meth c H locs cells slots Q g) (xI D ad0 cA0 n0 sc A s) m sad (xmaxL id) mc ms x t (J t)) (HC : xHC l D id lv C)
    (HR : ∀ (i : Instr) (pc : Nat) (k : XK), xisret i = true → xci1 id pc i = true → xci2 id pc i = true → xGo (fun H locs cells slots g => W p l e R s m args below meth c H locs cells slots Q g) (xI D ad0 cA0 n0 sc A s) m sad (xmaxL id) mc ms x pc (xins J C (xown id) id lv pc i k)) :
    ∀ (is : List Instr) (pc : Nat), xchkL id pc is = true → xGo (fun H locs cells slots g => W p l e R s m args below meth c H locs cells slots Q g) (xI D ad0 cA0 n0 sc A s) m sad (xmaxL id) mc ms x pc (xexec J C (xown id) id lv is pc) := by
  intro is
  induction is with
  | nil => intro pc _; exact HJ pc
  | cons i is ih =>
    intro pc h
    unfold xchkL at h
    simp only [Bool.and_eq_true] at h
    cases hr : xisret i with
    | true => exact HR i pc _ hr h.1.1 h.1.2
    | false => exact x_ins cx h.1.1 h.1.2 hr HJ HC (ih _ h.2)
theorem x_body (cx : xCx p R s m args meth c D sad sc A id lv mc ms) (hchk : xchk id = true) (HC : ∀ f, xHC l D id lv (fun d lw As u => xrf f d lw 0 (xentry d As) [] (xbud d) u))
    (HR : ∀ (J : Nat → XL → List Value → XB → XW → Option XR) (C : Nat → Nat → List Value → XW → Option XR) (i : Instr) (pc : Nat) (k : XK), xisret i = true → xci1 id pc i = true → xci2 id pc i = true → xGo (fun H locs cells slots g => W p l e R s m args below meth c H locs cells slots Q g) (xI D ad0 cA0 n0 sc A s) m sad (xmaxL id) mc ms x pc (xins J C (xown id) id lv pc i k)) :
    ∀ (f pc : Nat), xGo (fun H locs cells slots g => W p l e R s m args below meth c H locs cells slots Q g) (xI D ad0 cA0 n0 sc A s) m sad (xmaxL id) mc ms x pc (xrf f id lv pc) := by
  intro f
  induction f with
  | zero => intro pc ad cA w H locs cells slots ls L st b hI hL hs hc hb h; cases h
  | succ f ih =>
    intro pc ad cA w H locs cells slots ls L st b hI hL hs hc hb h
    have h : (match xblk id pc with
      | some is => xexec (xrf f id lv) (fun d lw As u => xrf f d lw 0 (xentry d As) [] (xbud d) u) (xown id) id lv is pc L st b w
      | none => none) = some x := h
    cases hk : xblk id pc with
    | none => rw [hk] at h; cases h
    | some is =>
      rw [hk] at h
      have hc2 := List.all_eq_true.mp hchk (pc, is) (xlk hk)
      exact x_list cx (fun t => ih t) (HC f) (HR _ _) is pc hc2 ad cA w H locs cells slots ls L st b hI hL hs hc hb h
end XASM
