/-! a way that is tried does all: the reference's side -/
theorem fL_all {G : Nat → Bool} : ∀ l : List Nat, (∀ x ∈ l, x < 2 ^ 31) → (fL G l = - nI 1 ↔ l.all G = true)
  | [], _ => ⟨fun _ => rfl, fun _ => rfl⟩
  | x :: l, h => by
    have ih := fL_all (G := G) l (fun y hy => h y (List.mem_cons_of_mem _ hy))
    have e : fL G (x :: l) = if G x = true then fL G l else nI x := rfl
    have e2 : (x :: l).all G = (G x && l.all G) := rfl
    rw [e, e2]
    cases hc : G x with
    | true =>
      rw [if_pos rfl, Bool.true_and]
      exact ih
    | false =>
      rw [if_neg (by decide), Bool.false_and]
      exact ⟨fun h9 => absurd h9 (zneq1 (h x List.mem_cons_self)), fun h9 => by cases h9⟩
theorem all_map {G P : Nat → Bool} {g : Nat → Nat} : ∀ l : List Nat, (∀ x ∈ l, P x = G (g x)) → (l.map g).all G = l.all P
  | [], _ => rfl
  | x :: l, h => by
    show (G (g x) && (l.map g).all G) = (P x && l.all P)
    rw [all_map l (fun y hy => h y (List.mem_cons_of_mem _ hy)), h x List.mem_cons_self]
/-- what the reference finds wrong first is nothing where the way does all -/
theorem fL_ds {F : List Lt} {k m n : Nat} {pk : Nat → Nat} {cs : List (List (Nat × Nat))} (hm : 1 ≤ m ∧ m ≤ 3) (hn : n ≤ 9) : fL (rgM k (pK F pk) (pA F pk) (pB F pk) 60 cs m) ((List.range' 0 (10 ^ m)).filter (okf n 3)) = - nI 1 ↔ (List.range' 0 ((n + 1) ^ m)).all (dsP F k pk cs m n) = true := by
  have hp : (10 : Nat) ^ m ≤ 1000 := Nat.le_trans (Nat.pow_le_pow_right (by omega) hm.2) (by decide)
  rw [fL_all _ (fun x hx => by
    have h1 := (List.mem_filter.mp hx).1
    have := List.mem_range'_1.mp h1
    omega), (chkF_at hm hn).1]
  rw [all_map (P := dsP F k pk cs m n) (G := rgM k (pK F pk) (pA F pk) (pB F pk) 60 cs m) (g := fun i => dcp (n + 1) m i m) _ (fun x hx => congrArg (mt k (pK F pk) (pA F pk) (pB F pk) 60 cs) (dgt_same hm hn (by have := List.mem_range'_1.mp hx; omega)))]
