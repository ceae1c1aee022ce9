/-! ways that are tried: the pure part -/
def okL (n : Nat) (x : Lt) : Bool := Nat.ble x.1 11 && ((!Nat.ble x.1 4 || Nat.blt x.2.1 12) && ((!Nat.beq x.1 9 || Nat.ble x.2.1 n) && ((!Nat.beq x.1 10 || Nat.ble x.2.1 3) && ((!(Nat.ble 2 x.1 && Nat.ble x.1 3) || (Nat.blt x.2.2 12 && !Nat.beq x.2.1 x.2.2)) && ((!Nat.beq x.1 4 || Nat.ble x.2.2 n) && !(Nat.ble 5 x.1 && Nat.ble x.1 8))))))
def chkL : Bool := (List.range 3).all fun H => (List.range 3).all fun n => (List.range 4).all fun wd => (List.range 2).all fun mv => (List.range 2).all fun pr => (letF (H + 1) (n + 1) wd mv pr).all (okL (n + 1)) && Nat.ble (letF (H + 1) (n + 1) wd mv pr).length 36
theorem chkL_t : chkL = true := by decide +kernel
theorem chkL_at {H n wd mv pr : Nat} (hH : 1 ≤ H ∧ H ≤ 3) (hn : 1 ≤ n ∧ n ≤ 3) (hw : wd ≤ 3) (hm : mv ≤ 1) (hp : pr ≤ 1) : (∀ x ∈ letF H n wd mv pr, okL n x = true) ∧ (letF H n wd mv pr).length ≤ 36 := by
  have h := chkL_t
  unfold chkL at h
  rw [List.all_eq_true] at h
  have h := h (H - 1) (List.mem_range.mpr (by omega))
  rw [List.all_eq_true] at h
  have h := h (n - 1) (List.mem_range.mpr (by omega))
  rw [List.all_eq_true] at h
  have h := h wd (List.mem_range.mpr (by omega))
  rw [List.all_eq_true] at h
  have h := h mv (List.mem_range.mpr (by omega))
  rw [List.all_eq_true] at h
  have h := h pr (List.mem_range.mpr (by omega))
  rw [show H - 1 + 1 = H by omega, show n - 1 + 1 = n by omega] at h
  obtain ⟨h1, h2⟩ := zand h
  rw [List.all_eq_true] at h1
  exact ⟨h1, Nat.le_of_ble_eq_true h2⟩
/-- the way of picks -/
def pL (F : List Lt) (pk : Nat → Nat) (k : Nat) : Lt := F.getD (pk k) (11, 0, 0)
def pK (F : List Lt) (pk : Nat → Nat) (k : Nat) : Nat := (pL F pk k).1
def pA (F : List Lt) (pk : Nat → Nat) (k : Nat) : Nat := (pL F pk k).2.1
def pB (F : List Lt) (pk : Nat → Nat) (k : Nat) : Nat := (pL F pk k).2.2
theorem pL_at {F : List Lt} {pk : Nat → Nat} {k : Nat} (h : pk k < F.length) : F[pk k]? = some (pL F pk k) := by
  unfold pL
  rw [List.getD_eq_getElem?_getD, List.getElem?_eq_getElem h]
  rfl
theorem zWy_p {F : List Lt} {pk : Nat → Nat} {n : Nat} (hF : ∀ x ∈ F, okL n x = true) (hn : 1 ≤ n ∧ n ≤ 3) (hp : ∀ k, k < n → pk k < F.length) : zWy n (pK F pk) (pA F pk) (pB F pk) := by
  refine ⟨by omega, by omega, fun k hk => ?_⟩
  have h := hF _ (List.mem_of_getElem? (pL_at (hp k hk)))
  unfold pK pA pB
  generalize pL F pk k = x at h
  unfold okL at h
  obtain ⟨h1, h⟩ := zand h
  obtain ⟨h2, h⟩ := zand h
  obtain ⟨h3, h⟩ := zand h
  obtain ⟨h4, h⟩ := zand h
  obtain ⟨h5, h⟩ := zand h
  obtain ⟨h6, h7⟩ := zand h
  have no : ¬ (5 ≤ x.1 ∧ x.1 ≤ 8) := fun ⟨a, b⟩ => by
    rw [Nat.ble_eq_true_of_le a, Nat.ble_eq_true_of_le b] at h7
    exact absurd h7 (by decide)
  refine ⟨Nat.le_of_ble_eq_true h1, fun a => Nat.le_of_ble_eq_true (zornot h2 (Nat.ble_eq_true_of_le a)), fun a b => absurd ⟨a, b⟩ no, fun a => Nat.le_trans (Nat.le_of_ble_eq_true (zornot h3 (by rw [a]; rfl))) (by omega), fun a => Nat.le_of_ble_eq_true (zornot h4 (by rw [a]; rfl)), fun a b => ?_, fun a => ?_⟩
  · obtain ⟨c, d⟩ := zand (zornot h5 (by rw [Nat.ble_eq_true_of_le a, Nat.ble_eq_true_of_le b]; rfl))
    refine ⟨Nat.le_of_ble_eq_true c, fun e => ?_⟩
    rw [e, Nat.beq_refl] at d
    exact absurd d (by decide)
  · rcases a with a | a | a
    · exact Nat.le_trans (Nat.le_of_ble_eq_true (zornot h6 (by rw [a]; rfl))) (by omega)
    · omega
    · omega
theorem zAl_p {F : List Lt} {pk : Nat → Nat} {n : Nat} (hF : ∀ x ∈ F, okL n x = true) (hp : ∀ k, k < n → pk k < F.length) : zAl n (pK F pk) (pA F pk) (pB F pk) := fun t ht h p => by
  have hx := hF _ (List.mem_of_getElem? (pL_at (hp t ht)))
  unfold pK pA pB
  generalize pL F pk t = x at hx
  unfold okL at hx
  obtain ⟨h1, hx⟩ := zand hx
  obtain ⟨h2, hx⟩ := zand hx
  obtain ⟨h3, hx⟩ := zand hx
  obtain ⟨h4, hx⟩ := zand hx
  obtain ⟨h5, hx⟩ := zand hx
  obtain ⟨h6, h7⟩ := zand hx
  have no : ¬ (5 ≤ x.1 ∧ x.1 ≤ 8) := fun ⟨a, b⟩ => by
    rw [Nat.ble_eq_true_of_le a, Nat.ble_eq_true_of_le b] at h7
    exact absurd h7 (by decide)
  unfold nx
  by_cases e4 : x.1 = 4
  · rw [if_pos e4]
    have := Nat.le_of_ble_eq_true (zornot h6 (by rw [e4]; rfl))
    split <;> omega
  · rw [if_neg e4, if_neg (by omega), if_neg (by omega)]
    by_cases e9 : x.1 = 9
    · rw [if_pos e9]
      exact Nat.le_of_ble_eq_true (zornot h3 (by rw [e9]; rfl))
    · rw [if_neg e9]
      omega
/-- the next picks -/
def advK (N : Nat) : Nat → (Nat → Nat) → Bool × (Nat → Nat)
  | 0, pk => (false, pk)
  | k + 1, pk => if pk k + 1 < N then (true, upn pk k (pk k + 1)) else advK N k (upn pk k 0)
def rk (N : Nat) (pk : Nat → Nat) : Nat → Nat
  | 0 => 0
  | k + 1 => rk N pk k * N + pk k
theorem rk_ext {N : Nat} {p q : Nat → Nat} : ∀ k, (∀ j, j < k → p j = q j) → rk N p k = rk N q k
  | 0, _ => rfl
  | k + 1, h => by
    show rk N p k * N + p k = rk N q k * N + q k
    rw [rk_ext k (fun j hj => h j (by omega)), h k (by omega)]
theorem advK_far {N : Nat} : ∀ (k : Nat) (pk : Nat → Nat) (j : Nat), k ≤ j → (advK N k pk).2 j = pk j
  | 0, _, _, _ => rfl
  | k + 1, pk, j, h => by
    unfold advK
    split
    · show upn pk k (pk k + 1) j = pk j
      unfold upn
      rw [if_neg (by omega)]
    · rw [advK_far k _ j (by omega)]
      unfold upn
      rw [if_neg (by omega)]
theorem advK_s {N : Nat} (hN : 0 < N) : ∀ (k : Nat) (pk : Nat → Nat), (∀ j, j < k → pk j < N) → (∀ j, j < k → (advK N k pk).2 j < N) ∧ ((advK N k pk).1 = decide (rk N pk k + 1 < N ^ k)) ∧ ((advK N k pk).1 = true → rk N (advK N k pk).2 k = rk N pk k + 1)
  | 0, pk, _ => ⟨fun j hj => by omega, rfl, fun h => by cases h⟩
  | k + 1, pk, h => by
    have hk := h k (by omega)
    have hlt : rk N pk k < N ^ k ∨ True := Or.inr trivial
    have hrk : ∀ m, (∀ j, j < m → pk j < N) → rk N pk m < N ^ m := by
      intro m
      induction m with
      | zero => intro _; exact Nat.one_pos
      | succ m ih =>
        intro h9
        have h1 := ih (fun j hj => h9 j (by omega))
        have h2 := h9 m (by omega)
        show rk N pk m * N + pk m < N ^ (m + 1)
        rw [Nat.pow_succ]
        calc rk N pk m * N + pk m < rk N pk m * N + N := by omega
          _ = (rk N pk m + 1) * N := by rw [Nat.add_mul, Nat.one_mul]
          _ ≤ N ^ m * N := Nat.mul_le_mul_right N h1
    have hr := hrk k (fun j hj => h j (by omega))
    unfold advK
    by_cases e : pk k + 1 < N
    · rw [if_pos e]
      refine ⟨fun j hj => ?_, ?_, fun _ => ?_⟩
      · show upn pk k (pk k + 1) j < N
        unfold upn
        split
        · exact e
        · exact h j hj
      · refine (decide_eq_true ?_).symm
        show rk N pk k * N + pk k + 1 < N ^ (k + 1)
        rw [Nat.pow_succ]
        calc rk N pk k * N + pk k + 1 < rk N pk k * N + N := by omega
          _ = (rk N pk k + 1) * N := by rw [Nat.add_mul, Nat.one_mul]
          _ ≤ N ^ k * N := Nat.mul_le_mul_right N hr
      · show rk N (upn pk k (pk k + 1)) k * N + upn pk k (pk k + 1) k = rk N pk k * N + pk k + 1
        rw [rk_ext k (q := pk) (fun j hj => by unfold upn; rw [if_neg (by omega)])]
        unfold upn
        rw [if_pos rfl]
        omega
    · rw [if_neg e]
      have e2 : pk k = N - 1 := by omega
      obtain ⟨a1, a2, a3⟩ := advK_s hN k (upn pk k 0) (fun j hj => by unfold upn; rw [if_neg (by omega)]; exact h j (by omega))
      have e3 : rk N (upn pk k 0) k = rk N pk k := rk_ext k (fun j hj => by unfold upn; rw [if_neg (by omega)])
      have e4 : (advK N k (upn pk k 0)).2 k = 0 := by
        rw [advK_far k _ k (Nat.le_refl _)]
        unfold upn
        rw [if_pos rfl]
      rw [e3] at a2 a3
      have e5 : rk N pk (k + 1) + 1 = (rk N pk k + 1) * N := by
        show rk N pk k * N + pk k + 1 = _
        rw [Nat.add_mul, Nat.one_mul]
        omega
      refine ⟨fun j hj => ?_, ?_, fun h9 => ?_⟩
      · by_cases ej : j = k
        · rw [ej, e4]
          exact hN
        · exact a1 j (by omega)
      · rw [a2, e5, Nat.pow_succ]
        exact decide_eq_decide.mpr ⟨fun h9 => Nat.mul_lt_mul_of_pos_right h9 hN, fun h9 => Nat.lt_of_mul_lt_mul_right h9⟩
      · show rk N (advK N k (upn pk k 0)).2 k * N + (advK N k (upn pk k 0)).2 k = _
        rw [a3 h9, e4, e5]
        rfl
