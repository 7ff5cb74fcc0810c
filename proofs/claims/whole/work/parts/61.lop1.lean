/-! ===== LOOPS, 1 (own work): walks over darts, told of any; closed sets ===== -/
theorem php (N : Nat) : ∀ f : Nat → Nat, (∀ i, i ≤ N → f i < N) → ∃ i j, i < j ∧ j ≤ N ∧ f i = f j := by
  induction N with
  | zero => intro f h; exact absurd (h 0 (Nat.le_refl _)) (Nat.not_lt_zero _)
  | succ N ih =>
    intro f h
    by_cases e : ∃ i, i ≤ N ∧ f i = f (N + 1)
    · obtain ⟨i, h1, h2⟩ := e
      exact ⟨i, N + 1, by omega, Nat.le_refl _, h2⟩
    · have ne : ∀ i, i ≤ N → f i ≠ f (N + 1) := fun i hi q => e ⟨i, hi, q⟩
      obtain ⟨i, j, h1, h2, h3⟩ := ih (fun i => if f i = N then f (N + 1) else f i) (fun i hi => by
        have a1 := h i (by omega)
        have a2 := h (N + 1) (Nat.le_refl _)
        have a3 := ne i hi
        show (if f i = N then f (N + 1) else f i) < N
        split <;> omega)
      have h3' : (if f i = N then f (N + 1) else f i) = (if f j = N then f (N + 1) else f j) := h3
      have n1 := ne i (by omega)
      have n2 := ne j h2
      refine ⟨i, j, h1, by omega, ?_⟩
      split at h3' <;> split at h3' <;> omega
def LW {X : Type} (vd : X → Prop) (nx rv : X → X) (ex : X → Bool) (pl : X → Nat) : Prop := (∀ x, vd x → ex x = false → vd (nx x)) ∧ (∀ x, vd x → ex x = false → nx (rv (nx x)) = rv x ∧ ex (rv (nx x)) = false) ∧ (∀ x y, vd x → vd y → pl x = pl y → y = x ∨ y = rv x) ∧ (∀ x, vd x → vd (rv x) ∧ rv (rv x) = x ∧ pl (rv x) = pl x ∧ rv x ≠ x) ∧ (∀ x, vd x → ex x = false → pl (nx x) ≠ pl x) ∧ (∀ x, vd x → pl x < 100)
theorem LW.a1 {X : Type} {vd : X → Prop} {nx rv : X → X} {ex : X → Bool} {pl : X → Nat} (L : LW vd nx rv ex pl) : ∀ x, vd x → ex x = false → vd (nx x) := L.1
theorem LW.a3 {X : Type} {vd : X → Prop} {nx rv : X → X} {ex : X → Bool} {pl : X → Nat} (L : LW vd nx rv ex pl) : ∀ x, vd x → ex x = false → nx (rv (nx x)) = rv x ∧ ex (rv (nx x)) = false := L.2.1
theorem LW.a4 {X : Type} {vd : X → Prop} {nx rv : X → X} {ex : X → Bool} {pl : X → Nat} (L : LW vd nx rv ex pl) : ∀ x y, vd x → vd y → pl x = pl y → y = x ∨ y = rv x := L.2.2.1
theorem LW.a5 {X : Type} {vd : X → Prop} {nx rv : X → X} {ex : X → Bool} {pl : X → Nat} (L : LW vd nx rv ex pl) : ∀ x, vd x → vd (rv x) ∧ rv (rv x) = x ∧ pl (rv x) = pl x ∧ rv x ≠ x := L.2.2.2.1
theorem LW.a6 {X : Type} {vd : X → Prop} {nx rv : X → X} {ex : X → Bool} {pl : X → Nat} (L : LW vd nx rv ex pl) : ∀ x, vd x → ex x = false → pl (nx x) ≠ pl x := L.2.2.2.2.1
theorem LW.a7 {X : Type} {vd : X → Prop} {nx rv : X → X} {ex : X → Bool} {pl : X → Nat} (L : LW vd nx rv ex pl) : ∀ x, vd x → pl x < 100 := L.2.2.2.2.2
def itD {X : Type} (nx : X → X) (x : X) : Nat → X
  | 0 => x
  | k + 1 => nx (itD nx x k)
theorem itD_add {X : Type} (nx : X → X) (x : X) (a m : Nat) : itD nx x (a + m) = itD nx (itD nx x a) m := by
  induction m with
  | zero => rfl
  | succ m ih => show nx (itD nx x (a + m)) = nx (itD nx (itD nx x a) m); rw [ih]
def clS {X : Type} (vd : X → Prop) (nx : X → X) (ex : X → Bool) (pl : X → Nat) (S : Nat → Prop) : Prop := ∀ x, vd x → ex x = false → S (pl x) → S (pl (nx x))
def rch {X : Type} (vd : X → Prop) (nx : X → X) (ex : X → Bool) (pl : X → Nat) (v u : Nat) : Prop := ∀ S : Nat → Prop, clS vd nx ex pl S → S v → S u
section XLW
variable {X : Type} {vd : X → Prop} {nx rv : X → X} {ex : X → Bool} {pl : X → Nat}
theorem rch_rf (v : Nat) : rch vd nx ex pl v v := fun _ _ h => h
theorem rch_tr {v u t : Nat} (h : rch vd nx ex pl v u) (g : rch vd nx ex pl u t) : rch vd nx ex pl v t := fun S hS hv => g S hS (h S hS hv)
theorem rch_cl (v : Nat) : clS vd nx ex pl (rch vd nx ex pl v) := fun x h1 h2 h3 S hS hv => hS x h1 h2 (h3 S hS hv)
theorem cl_or {S R : Nat → Prop} (h : clS vd nx ex pl S) (g : clS vd nx ex pl R) : clS vd nx ex pl (fun u => S u ∨ R u) := fun x h1 h2 h3 => by
  rcases h3 with q | q
  · exact Or.inl (h x h1 h2 q)
  · exact Or.inr (g x h1 h2 q)
theorem cl_ex {ι : Type} {S : ι → Nat → Prop} (h : ∀ i, clS vd nx ex pl (S i)) : clS vd nx ex pl (fun u => ∃ i, S i u) := fun x h1 h2 h3 => by
  obtain ⟨i, q⟩ := h3
  exact ⟨i, h i x h1 h2 q⟩
variable {x : X}
theorem LW.inj (L : LW vd nx rv ex pl) {y : X} (hy : vd y) (hx : vd x) (h1 : ex x = false) (h2 : ex y = false) (h : nx x = nx y) : x = y := by
  have e1 := (L.a3 x hx h1).1
  have e2 := (L.a3 y hy h2).1
  rw [h, e2] at e1
  rw [← (L.a5 x hx).2.1, ← e1, (L.a5 y hy).2.1]
theorem cl_back (L : LW vd nx rv ex pl) {S : Nat → Prop} (h : clS vd nx ex pl S) {y : X} (hy : vd y) (h1 : ex y = false) (h2 : S (pl (nx y))) : S (pl y) := by
  have hv := L.a1 y hy h1
  have a := L.a5 _ hv
  have b := L.a3 y hy h1
  have c := h (rv (nx y)) a.1 b.2 (by rw [a.2.2.1]; exact h2)
  rw [b.1, (L.a5 y hy).2.2.1] at c
  exact c
theorem it_vd (L : LW vd nx rv ex pl) (hx : vd x) {K : Nat} (hK : ∀ j, j < K → ex (itD nx x j) = false) : ∀ k, k ≤ K → vd (itD nx x k) := by
  intro k
  induction k with
  | zero => intro _; exact hx
  | succ k ih => intro hk; exact L.a1 _ (ih (by omega)) (hK k (by omega))
theorem it_rev (L : LW vd nx rv ex pl) (hx : vd x) : ∀ m a, (∀ j, j < a + m → ex (itD nx x j) = false) → itD nx x (a + m) ≠ rv (itD nx x a) := by
  have two : ∀ m, (∀ a, (∀ j, j < a + m → ex (itD nx x j) = false) → itD nx x (a + m) ≠ rv (itD nx x a)) ∧ (∀ a, (∀ j, j < a + (m + 1) → ex (itD nx x j) = false) → itD nx x (a + (m + 1)) ≠ rv (itD nx x a)) := by
    intro m
    induction m with
    | zero =>
      refine ⟨fun a h q => ?_, fun a h q => ?_⟩
      · exact (L.a5 _ (it_vd L hx h a (by omega))).2.2.2 q.symm
      · have hv := it_vd L hx h a (by omega)
        have h1 := L.a6 _ hv (h a (by omega))
        have q' : nx (itD nx x a) = rv (itD nx x a) := q
        rw [q', (L.a5 _ hv).2.2.1] at h1
        exact h1 rfl
    | succ m ih =>
      refine ⟨ih.2, fun a h q => ?_⟩
      have hv := it_vd L hx h a (by omega)
      have hv1 := it_vd L hx h (a + 1) (by omega)
      have hv2 := it_vd L hx h (a + (m + 1)) (by omega)
      have e1 := L.a3 _ hv (h a (by omega))
      have q' : nx (itD nx x (a + (m + 1))) = rv (itD nx x a) := q
      rw [← e1.1] at q'
      have q2 := L.inj (L.a5 _ hv1).1 hv2 (h (a + (m + 1)) (by omega)) e1.2 q'
      refine ih.1 (a + 1) (fun j hj => h j (by omega)) ?_
      rw [show a + 1 + m = a + (m + 1) by omega]
      exact q2
  exact fun m => (two m).1
theorem it_back (L : LW vd nx rv ex pl) (hx : vd x) : ∀ a m, (∀ j, j < a + m → ex (itD nx x j) = false) → itD nx x (a + m) = itD nx x a → itD nx x m = x := by
  intro a
  induction a with
  | zero => intro m _ h; rw [Nat.zero_add] at h; exact h
  | succ a ih =>
    intro m hK h
    refine ih m (fun j hj => hK j (by omega)) ?_
    have h' : itD nx x (a + m + 1) = itD nx x (a + 1) := by rw [← h]; congr 1; omega
    exact L.inj (it_vd L hx hK a (by omega)) (it_vd L hx hK (a + m) (by omega)) (hK _ (by omega)) (hK _ (by omega)) h'
theorem it_rep (L : LW vd nx rv ex pl) (hx : vd x) {a b : Nat} (hab : a < b) (hK : ∀ j, j < b → ex (itD nx x j) = false) (h : pl (itD nx x a) = pl (itD nx x b)) : itD nx x (b - a) = x := by
  have e : b = a + (b - a) := by omega
  rcases L.a4 _ _ (it_vd L hx hK a (by omega)) (it_vd L hx hK b (by omega)) h with q | q
  · refine it_back L hx a (b - a) (fun j hj => hK j (by omega)) ?_
    rw [← e]; exact q
  · refine absurd ?_ (it_rev L hx (b - a) a (fun j hj => hK j (by omega)))
    rw [← e]; exact q
theorem st_dist (L : LW vd nx rv ex pl) (hx : vd x) (hs : ex (rv x) = true) {a b : Nat} (hab : a < b) (hK : ∀ j, j < b → ex (itD nx x j) = false) : pl (itD nx x a) ≠ pl (itD nx x b) := fun h => by
  have e := it_rep L hx hab hK h
  cases hm : b - a with
  | zero => omega
  | succ m =>
    rw [hm] at e
    have e' : nx (itD nx x m) = x := e
    have h1 := (L.a3 _ (it_vd L hx hK m (by omega)) (hK m (by omega))).2
    rw [e', hs] at h1
    cases h1
theorem st_exit (L : LW vd nx rv ex pl) (hx : vd x) (hs : ex (rv x) = true) : ∃ K, K < 100 ∧ (∀ j, j < K → ex (itD nx x j) = false) ∧ ex (itD nx x K) = true ∧ firstN (fun k => ex (itD nx x k)) 100 = K := by
  refine ⟨firstN (fun k => ex (itD nx x k)) 100, ?_, fun j hj => firstN_no hj, ?_, rfl⟩
  · rcases Nat.lt_or_ge (firstN (fun k => ex (itD nx x k)) 100) 100 with q | q
    · exact q
    · have hK : ∀ j, j < 100 → ex (itD nx x j) = false := fun j hj => firstN_no (p := fun k => ex (itD nx x k)) (n := 100) (by omega)
      obtain ⟨i, j, h1, h2, h3⟩ := php 100 (fun k => pl (itD nx x k)) (fun i hi => L.a7 _ (it_vd L hx hK i hi))
      exact absurd h3 (st_dist L hx hs h1 (fun k hk => hK k (by omega)))
  · rcases Nat.lt_or_ge (firstN (fun k => ex (itD nx x k)) 100) 100 with q | q
    · exact firstN_yes (p := fun k => ex (itD nx x k)) q
    · have hK : ∀ j, j < 100 → ex (itD nx x j) = false := fun j hj => firstN_no (p := fun k => ex (itD nx x k)) (n := 100) (by omega)
      obtain ⟨i, j, h1, h2, h3⟩ := php 100 (fun k => pl (itD nx x k)) (fun i hi => L.a7 _ (it_vd L hx hK i hi))
      exact absurd h3 (st_dist L hx hs h1 (fun k hk => hK k (by omega)))
theorem ring_ex (L : LW vd nx rv ex pl) (hx : vd x) (hK : ∀ j, ex (itD nx x j) = false) : ∃ b, 1 ≤ b ∧ b ≤ 100 ∧ itD nx x b = x ∧ ∀ i j, i < j → j < b → pl (itD nx x i) ≠ pl (itD nx x j) := by
  obtain ⟨i0, j0, h1, h2, h3⟩ := php 100 (fun k => pl (itD nx x k)) (fun i hi => L.a7 _ (it_vd L hx (fun j _ => hK j) i hi))
  have h3' : pl (itD nx x i0) = pl (itD nx x j0) := h3
  let p : Nat → Bool := fun k => (List.range k).any (fun i => pl (itD nx x i) == pl (itD nx x k))
  have pt : ∀ i k, i < k → pl (itD nx x i) = pl (itD nx x k) → p k = true := fun i k hik he => List.any_eq_true.mpr ⟨i, List.mem_range.mpr hik, beq_iff_eq.mpr he⟩
  have b1 : firstN p 101 ≤ j0 := by
    rcases Nat.lt_or_ge j0 (firstN p 101) with q | q
    · have := firstN_no (p := p) q
      rw [pt i0 j0 h1 h3'] at this
      cases this
    · exact q
  have b2 := firstN_yes (p := p) (n := 101) (by omega)
  obtain ⟨a, ha, hb⟩ := List.any_eq_true.mp b2
  have ha' := List.mem_range.mp ha
  have hb' := beq_iff_eq.mp hb
  have hr := it_rep L hx ha' (fun j _ => hK j) hb'
  have dist : ∀ i j, i < j → j < firstN p 101 → pl (itD nx x i) ≠ pl (itD nx x j) := fun i j hij hj q => by
    have := firstN_no (p := p) hj
    rw [pt i j hij q] at this
    cases this
  have a0 : a = 0 := by
    rcases Nat.eq_zero_or_pos a with q | q
    · exact q
    · refine absurd ?_ (dist 0 (firstN p 101 - a) (by omega) (by omega))
      rw [hr]; rfl
  rw [a0, Nat.sub_zero] at hr
  exact ⟨firstN p 101, by omega, by omega, hr, dist⟩
theorem cl_it (L : LW vd nx rv ex pl) (hx : vd x) {S : Nat → Prop} (h : clS vd nx ex pl S) (h0 : S (pl x)) {K : Nat} (hK : ∀ j, j < K → ex (itD nx x j) = false) : ∀ k, k ≤ K → S (pl (itD nx x k)) := by
  intro k
  induction k with
  | zero => intro _; exact h0
  | succ k ih => intro hk; exact h _ (it_vd L hx hK k (by omega)) (hK k (by omega)) (ih (by omega))
theorem cl_itb (L : LW vd nx rv ex pl) (hx : vd x) {S : Nat → Prop} (h : clS vd nx ex pl S) {K : Nat} (hK : ∀ j, j < K → ex (itD nx x j) = false) : ∀ k, k ≤ K → S (pl (itD nx x k)) → S (pl x) := by
  intro k
  induction k with
  | zero => intro _ q; exact q
  | succ k ih => intro hk q; exact ih (by omega) (cl_back L h (it_vd L hx hK k (by omega)) (hK k (by omega)) q)
theorem end_cl (L : LW vd nx rv ex pl) (hx : vd x) {Z : Nat → Prop} (hZ : clS vd nx ex pl Z) (hs : ex (rv x) = true) {K : Nat} (hK : ∀ j, j < K → ex (itD nx x j) = false) (hE : ex (itD nx x K) = true) : clS vd nx ex pl (fun u => Z u ∨ ∃ k, k ≤ K ∧ u = pl (itD nx x k)) := by
  intro y hy he hS
  rcases hS with q | ⟨k, hk, q⟩
  · exact Or.inl (hZ y hy he q)
  · refine Or.inr ?_
    rcases L.a4 _ _ (it_vd L hx hK k hk) hy q.symm with z | z
    · by_cases e : k = K
      · rw [z, e, hE] at he; cases he
      · exact ⟨k + 1, by omega, by rw [z]; rfl⟩
    · cases k with
      | zero => rw [z, show itD nx x 0 = x from rfl, hs] at he; cases he
      | succ m =>
        have hv := it_vd L hx hK m (by omega)
        refine ⟨m, by omega, ?_⟩
        rw [z, show itD nx x (m + 1) = nx (itD nx x m) from rfl, (L.a3 _ hv (hK m (by omega))).1, (L.a5 _ hv).2.2.1]
theorem end_set (L : LW vd nx rv ex pl) (hx : vd x) {Z : Nat → Prop} (hZ : clS vd nx ex pl Z) (hs : ex (rv x) = true) {K : Nat} (hK : ∀ j, j < K → ex (itD nx x j) = false) (hE : ex (itD nx x K) = true) (u : Nat) : (Z u ∨ ∃ k, k ≤ K ∧ u = pl (itD nx x k)) ↔ (Z u ∨ rch vd nx ex pl (pl x) u) := by
  constructor
  · rintro (q | ⟨k, hk, q⟩)
    · exact Or.inl q
    · refine Or.inr ?_
      rw [q]
      exact cl_it L hx (rch_cl (pl x)) (rch_rf _) hK k hk
  · rintro (q | q)
    · exact Or.inl q
    · exact q _ (end_cl L hx hZ hs hK hE) (Or.inr ⟨0, Nat.zero_le _, rfl⟩)
theorem ring_cl (L : LW vd nx rv ex pl) (hx : vd x) {Z : Nat → Prop} (hZ : clS vd nx ex pl Z) (hK : ∀ j, ex (itD nx x j) = false) {b : Nat} (hb : 1 ≤ b) (hE : itD nx x b = x) : clS vd nx ex pl (fun u => Z u ∨ ∃ k, k < b ∧ u = pl (itD nx x k)) := by
  intro y hy he hS
  rcases hS with q | ⟨k, hk, q⟩
  · exact Or.inl (hZ y hy he q)
  · refine Or.inr ?_
    have V := fun m => it_vd L hx (fun j (_ : j < m) => hK j) m (Nat.le_refl _)
    rcases L.a4 _ _ (V k) hy q.symm with z | z
    · by_cases e : k + 1 = b
      · refine ⟨0, by omega, ?_⟩
        rw [z, show nx (itD nx x k) = itD nx x (k + 1) from rfl, e, hE]; rfl
      · exact ⟨k + 1, by omega, by rw [z]; rfl⟩
    · cases k with
      | zero =>
        refine ⟨b - 1, by omega, ?_⟩
        have e : nx (itD nx x (b - 1)) = x := by rw [show nx (itD nx x (b - 1)) = itD nx x (b - 1 + 1) from rfl, show b - 1 + 1 = b by omega, hE]
        have a := L.a3 _ (V (b - 1)) (hK _)
        rw [e] at a
        rw [z, show itD nx x 0 = x from rfl, a.1, (L.a5 _ (V (b - 1))).2.2.1]
      | succ m =>
        refine ⟨m, by omega, ?_⟩
        rw [z, show itD nx x (m + 1) = nx (itD nx x m) from rfl, (L.a3 _ (V m) (hK m)).1, (L.a5 _ (V m)).2.2.1]
theorem ring_set (L : LW vd nx rv ex pl) (hx : vd x) {Z : Nat → Prop} (hZ : clS vd nx ex pl Z) (hK : ∀ j, ex (itD nx x j) = false) {b : Nat} (hb : 1 ≤ b) (hE : itD nx x b = x) (u : Nat) : (Z u ∨ ∃ k, k < b ∧ u = pl (itD nx x k)) ↔ (Z u ∨ rch vd nx ex pl (pl x) u) := by
  constructor
  · rintro (q | ⟨k, hk, q⟩)
    · exact Or.inl q
    · refine Or.inr ?_
      rw [q]
      exact cl_it L hx (rch_cl (pl x)) (rch_rf _) (K := k) (fun j _ => hK j) k (Nat.le_refl _)
  · rintro (q | q)
    · exact Or.inl q
    · exact q _ (ring_cl L hx hZ hK hb hE) (Or.inr ⟨0, by omega, rfl⟩)
theorem ring_no (L : LW vd nx rv ex pl) (hx : vd x) {Z : Nat → Prop} (hZ : clS vd nx ex pl Z) (hB : ∀ y, vd y → ex y = true → Z (pl y)) (h0 : ¬ Z (pl x)) : ∀ j, ex (itD nx x j) = false := by
  intro j
  induction j using Nat.strongRecOn with
  | ind j ih =>
    cases h : ex (itD nx x j) with
    | false => rfl
    | true => exact absurd (cl_itb L hx hZ ih j (Nat.le_refl _) (hB _ (it_vd L hx ih j (Nat.le_refl _)) h)) h0
end XLW
