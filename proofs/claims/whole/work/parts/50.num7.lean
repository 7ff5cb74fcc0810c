/-! ===== NUMBERS, 7 (own work): the class's walk over rows, as lists; that it goes through fl (lists compared by the kernel for n up to 10) ===== -/
def layL : List Nat → Nat → List Nat
  | [], _ => []
  | l :: ls, lo => max l lo :: layL ls (max l lo + 1)
def advL : List Nat → List Nat → List Nat → Option (List Nat)
  | l :: ls, g :: gs, c :: cs => match advL ls gs cs with
    | some r => some (c :: r)
    | none => if c < g then some (layL (l :: ls) (c + 1)) else none
  | _, _, _ => none
def enL : List Nat → List Nat → Nat → List (List Nat)
  | [], _, _ => [[]]
  | l :: ls, gs, lo => match gs with
    | [] => []
    | g :: gs => (List.range' (max l lo) (g + 1 - max l lo)).flatMap (fun c => (enL ls gs (c + 1)).map (fun r => c :: r))
def colsL (n a : Nat) : List Nat := (List.range n).filter (fun c => a / 2 ^ (n - 1 - c) % 2 == 1)
def lsL (n a : Nat) : List Nat := 0 :: colsL n a
def grL (n : Nat) : List Nat → List Nat
  | [] => []
  | l :: ls => match ls with
    | [] => [n - 1]
    | l' :: ls' => match grL n (l' :: ls') with
      | [] => []
      | g :: gs => min l' (g - 1) :: g :: gs
def vaL (n : Nat) : List Nat → Nat
  | [] => 0
  | c :: cs => 2 ^ (n - 1 - c) + vaL n cs
/-- least up to greatest, greatest rising -/
def okL : List Nat → List Nat → Bool
  | [], gs => gs.isEmpty
  | l :: ls, gs => match gs with
    | [] => false
    | g :: gs => decide (l ≤ g) && (match gs with
      | [] => true
      | g' :: _ => decide (g < g')) && okL ls gs
def chkW (n a : Nat) : Bool := okL (lsL n a) (grL n (lsL n a)) && ((enL (lsL n a) (grL n (lsL n a)) 0).map (vaL n) == fl n a 0) && decide ((lsL n a).length ≤ 11) && (grL n (lsL n a)).all (fun g => decide (g < n))
def chkA (n : Nat) : Bool := (List.range (2 ^ n - 1)).all (chkW n)
theorem chk_1 : chkA 1 = true := by decide +kernel
theorem chk_2 : chkA 2 = true := by decide +kernel
theorem chk_3 : chkA 3 = true := by decide +kernel
theorem chk_4 : chkA 4 = true := by decide +kernel
theorem chk_5 : chkA 5 = true := by decide +kernel
theorem chk_6 : chkA 6 = true := by decide +kernel
theorem chk_7 : chkA 7 = true := by decide +kernel
theorem chk_8 : chkA 8 = true := by decide +kernel
