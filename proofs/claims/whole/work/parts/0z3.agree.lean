/-! Tables on which two must agree: both sides -/
def bt6 (n : Nat) : Nat := n % 2 + n / 2 % 2 + n / 4 % 2 + n / 8 % 2 + n / 16 % 2 + n / 32 % 2
def sbB (p r : Nat) : Bool := Nat.beq (Nat.land p r) p
def bit (n k : Nat) : Nat := n / 2 ^ k % 2
/-- cells and marks among the first k -/
def clF (r c : Nat) : Nat → Nat
  | 0 => 0
  | k + 1 => clF r c k + (if bit r (k / 6) = 1 ∧ bit c (k % 6) = 1 then 1 else 0)
def onF (w : Nat → Nat) (r c : Nat) : Nat → Nat
  | 0 => 0
  | k + 1 => onF w r c k + (if bit r (k / 6) = 1 ∧ bit c (k % 6) = 1 then w k else 0)
def alk (w : Nat → Nat) (r c : Nat) : Bool := decide (onF w r c 36 = 0) || decide (onF w r c 36 = clF r c 36)
theorem onF_le {w : Nat → Nat} {r c : Nat} (hw : ∀ j, j < 36 → w j ≤ 1) : ∀ k, k ≤ 36 → onF w r c k ≤ clF r c k
  | 0, _ => Nat.le_refl _
  | k + 1, h => by
    have h1 := onF_le (r := r) (c := c) hw k (by omega)
    have h2 := hw k (by omega)
    show onF w r c k + _ ≤ clF r c k + _
    split <;> omega
theorem clF_le {r c : Nat} : ∀ k, clF r c k ≤ k
  | 0 => Nat.le_refl _
  | k + 1 => by
    have h1 := clF_le (r := r) (c := c) k
    show clF r c k + _ ≤ k + 1
    split <;> omega
def chkA : Bool := (List.range 64).all fun r => (List.range 64).all fun c => Nat.beq (clF r c 36) (bt6 r * bt6 c)
theorem chkA_t : chkA = true := by decide +kernel
theorem clF_eq {r c : Nat} (hr : r < 64) (hc : c < 64) : clF r c 36 = bt6 r * bt6 c := by
  have h := chkA_t
  unfold chkA at h
  rw [List.all_eq_true] at h
  have h1 := h r (List.mem_range.mpr hr)
  rw [List.all_eq_true] at h1
  exact Nat.eq_of_beq_eq_true (h1 c (List.mem_range.mpr hc))
def chkB : Bool := (List.range 64).all fun r => (List.range 64).all fun p =>
  (decide (nI p &&& nI r = nI p) == sbB p r) && (decide (nI p &&& (nI r ^^^ - nI 1) = 0) == sbB p r) && (!sbB p r || (decide (nI r ^^^ nI p = nI (r - p)) && decide (p ≤ r)))
theorem chkB_t : chkB = true := by decide +kernel
theorem chkB_at {r p : Nat} (hr : r < 64) (hp : p < 64) : ((nI p &&& nI r = nI p) ↔ sbB p r = true) ∧ ((nI p &&& (nI r ^^^ - nI 1) = 0) ↔ sbB p r = true) ∧ (sbB p r = true → nI r ^^^ nI p = nI (r - p) ∧ p ≤ r) := by
  have h := chkB_t
  unfold chkB at h
  rw [List.all_eq_true] at h
  have h1 := h r (List.mem_range.mpr hr)
  rw [List.all_eq_true] at h1
  have h2 := h1 p (List.mem_range.mpr hp)
  obtain ⟨h3, h5⟩ := zand h2
  obtain ⟨h3, h4⟩ := zand h3
  have e3 := eq_of_beq h3
  have e4 := eq_of_beq h4
  refine ⟨by rw [← e3, decide_eq_true_eq], by rw [← e4, decide_eq_true_eq], fun hb => ?_⟩
  rw [hb] at h5
  have h6 : (decide (nI r ^^^ nI p = nI (r - p)) && decide (p ≤ r)) = true := h5
  obtain ⟨h7, h8⟩ := zand h6
  exact ⟨of_decide_eq_true h7, of_decide_eq_true h8⟩
def chkC : Bool := (List.range 64).all fun r => Nat.ble (bt6 r) 1 || (List.range r).any fun p => Nat.ble 1 p && (sbB p r && (Nat.beq (bt6 p) 1 && Nat.beq (bt6 (r - p) + 1) (bt6 r)))
theorem chkC_t : chkC = true := by decide +kernel
theorem chkC_at {r : Nat} (hr : r < 64) (h2 : 2 ≤ bt6 r) : ∃ p, 1 ≤ p ∧ p < r ∧ sbB p r = true ∧ bt6 p = 1 ∧ bt6 (r - p) + 1 = bt6 r := by
  have h := chkC_t
  unfold chkC at h
  rw [List.all_eq_true] at h
  have h1 := h r (List.mem_range.mpr hr)
  rw [Bool.or_eq_true] at h1
  rcases h1 with h1 | h1
  · have := Nat.le_of_ble_eq_true h1
    omega
  · rw [List.any_eq_true] at h1
    obtain ⟨p, hp, h3⟩ := h1
    obtain ⟨a, h3⟩ := zand h3
    obtain ⟨b, h3⟩ := zand h3
    obtain ⟨c, d⟩ := zand h3
    exact ⟨p, Nat.le_of_ble_eq_true a, List.mem_range.mp hp, b, Nat.eq_of_beq_eq_true c, Nat.eq_of_beq_eq_true d⟩
theorem bt6_pos {r : Nat} (h1 : 1 ≤ r) (h2 : r < 64) : 1 ≤ bt6 r := by
  have h : (List.range 64).all (fun r => Nat.beq r 0 || Nat.ble 1 (bt6 r)) = true := by decide +kernel
  rw [List.all_eq_true] at h
  have := h r (List.mem_range.mpr h2)
  rw [Bool.or_eq_true] at this
  rcases this with h | h
  · have := Nat.eq_of_beq_eq_true h
    omega
  · exact Nat.le_of_ble_eq_true h
theorem alk_1 {w : Nat → Nat} {r c : Nat} (hw : ∀ j, j < 36 → w j ≤ 1) (hr : r < 64) (hc : c < 64) (h1 : bt6 r = 1) (h2 : bt6 c = 1) : alk w r c = true := by
  have e := clF_eq hr hc
  rw [h1, h2] at e
  have h := onF_le (r := r) (c := c) hw 36 (Nat.le_refl _)
  unfold alk
  rw [Bool.or_eq_true, decide_eq_true_eq, decide_eq_true_eq]
  omega
/-- the least over all parts -/
def mnF (P : Nat → Option Nat) : Nat → Nat → Nat → Nat
  | 0, _, m => m
  | f + 1, k, m => match P k with
    | none => mnF P f (k + 1) m
    | some v => mnF P f (k + 1) (if v < m then v else m)
theorem mnF_n {P : Nat → Option Nat} {f k m : Nat} (h : P k = none) : mnF P (f + 1) k m = mnF P f (k + 1) m := by
  show (match P k with
    | none => mnF P f (k + 1) m
    | some v => mnF P f (k + 1) (if v < m then v else m)) = _
  rw [h]
theorem mnF_s {P : Nat → Option Nat} {f k m v : Nat} (h : P k = some v) : mnF P (f + 1) k m = mnF P f (k + 1) (if v < m then v else m) := by
  show (match P k with
    | none => mnF P f (k + 1) m
    | some v => mnF P f (k + 1) (if v < m then v else m)) = _
  rw [h]
theorem mnF_le {P : Nat → Option Nat} : ∀ (f k m : Nat), mnF P f k m ≤ m
  | 0, _, _ => Nat.le_refl _
  | f + 1, k, m => by
    cases h : P k with
    | none =>
      rw [mnF_n h]
      exact mnF_le f (k + 1) m
    | some v =>
      rw [mnF_s h]
      exact Nat.le_trans (mnF_le (P := P) f (k + 1) (if v < m then v else m)) (by split <;> omega)
theorem mnF_min {P : Nat → Option Nat} : ∀ (f k m M : Nat), m ≤ M → mnF P f k m = min m (mnF P f k M)
  | 0, k, m, M, h => by
    show m = min m M
    omega
  | f + 1, k, m, M, h => by
    cases hp : P k with
    | none =>
      rw [mnF_n hp, mnF_n hp]
      exact mnF_min f (k + 1) m M h
    | some v =>
      rw [mnF_s hp, mnF_s hp]
      have hb := mnF_le (P := P) f (k + 1) (if v < M then v else M)
      by_cases h1 : v < m
      · rw [if_pos h1, if_pos (by omega)]
        rw [if_pos (by omega)] at hb
        omega
      · rw [if_neg h1]
        exact mnF_min f (k + 1) m _ (by split <;> omega)
theorem mnF_at {P : Nat → Option Nat} {v : Nat} : ∀ (f k m j : Nat), k ≤ j → j < k + f → P j = some v → mnF P f k m ≤ v
  | 0, k, m, j, h1, h2, _ => by omega
  | f + 1, k, m, j, h1, h2, h3 => by
    by_cases e : j = k
    · subst e
      rw [mnF_s h3]
      exact Nat.le_trans (mnF_le (P := P) f (j + 1) (if v < m then v else m)) (by split <;> omega)
    · cases hp : P k with
      | none =>
        rw [mnF_n hp]
        exact mnF_at f (k + 1) m j (by omega) (by omega) h3
      | some u =>
        rw [mnF_s hp]
        exact mnF_at f (k + 1) _ j (by omega) (by omega) h3
def mx2 (a b : Nat) : Nat := if a < b then b else a
def pR (T : Nat → Nat) (r c k : Nat) : Option Nat := if sbB k r = true then some (mx2 (T (64 * k + c)) (T (64 * (r - k) + c))) else none
def pC (T : Nat → Nat) (r c k : Nat) : Option Nat := if sbB k c = true then some (mx2 (T (64 * r + k)) (T (64 * r + (c - k)))) else none
/-- the least parting, at most M -/
def lp (T : Nat → Nat) (r c M : Nat) : Nat := mnF (pC T r c) (c - 1) 1 (mnF (pR T r c) (r - 1) 1 M)
def vd (w T : Nat → Nat) (r c : Nat) : Nat := if alk w r c = true then 0 else 1 + lp T r c 12
/-- the entries that stand: a row's up to c, and those of the rows before -/
def dn (C r c r' c' : Nat) : Prop := 1 ≤ r' ∧ 1 ≤ c' ∧ c' ≤ C ∧ (r' < r ∨ (r' = r ∧ c' < c))
def tbB (T : Nat → Nat) (C r c : Nat) : Prop := ∀ r' c', dn C r c r' c' → T (64 * r' + c') + 2 ≤ bt6 r' + bt6 c'
theorem lp_le {w T : Nat → Nat} {C r c M : Nat} (hw : ∀ j, j < 36 → w j ≤ 1) (hr : 1 ≤ r ∧ r < 64) (hc : 1 ≤ c ∧ c ≤ C ∧ c < 64) (ht : tbB T C r c) (ha : alk w r c = false) : lp T r c M + 3 ≤ bt6 r + bt6 c := by
  have h1 := bt6_pos hr.1 hr.2
  have h2 := bt6_pos hc.1 hc.2.2
  by_cases hb : 2 ≤ bt6 c
  · obtain ⟨p, p1, p2, p3, p4, p5⟩ := chkC_at hc.2.2 hb
    have e : pC T r c p = some (mx2 (T (64 * r + p)) (T (64 * r + (c - p)))) := if_pos p3
    have b1 := ht r p ⟨hr.1, p1, by omega, Or.inr ⟨rfl, p2⟩⟩
    have b2 := ht r (c - p) ⟨hr.1, by omega, by omega, Or.inr ⟨rfl, by omega⟩⟩
    have := mnF_at (P := pC T r c) (c - 1) 1 (mnF (pR T r c) (r - 1) 1 M) p p1 (by omega) e
    unfold lp
    unfold mx2 at this
    split at this <;> omega
  · have hb2 : 2 ≤ bt6 r := by
      by_cases h : 2 ≤ bt6 r
      · exact h
      · have := alk_1 hw hr.2 hc.2.2 (show bt6 r = 1 by omega) (show bt6 c = 1 by omega)
        rw [ha] at this
        cases this
    obtain ⟨p, p1, p2, p3, p4, p5⟩ := chkC_at hr.2 hb2
    have e : pR T r c p = some (mx2 (T (64 * p + c)) (T (64 * (r - p) + c))) := if_pos p3
    have b1 := ht p c ⟨p1, hc.1, hc.2.1, Or.inl p2⟩
    have b2 := ht (r - p) c ⟨by omega, hc.1, hc.2.1, Or.inl (by omega)⟩
    have h3 := mnF_at (P := pR T r c) (r - 1) 1 M p p1 (by omega) e
    have h4 := mnF_le (P := pC T r c) (c - 1) 1 (mnF (pR T r c) (r - 1) 1 M)
    unfold lp
    unfold mx2 at h3
    split at h3 <;> omega
theorem lp_12 {w T : Nat → Nat} {C r c : Nat} (hw : ∀ j, j < 36 → w j ≤ 1) (hr : 1 ≤ r ∧ r < 64) (hc : 1 ≤ c ∧ c ≤ C ∧ c < 64) (ht : tbB T C r c) (ha : alk w r c = false) : lp T r c 98 = lp T r c 12 := by
  have h1 := lp_le (M := 98) hw hr hc ht ha
  have hb1 : bt6 r ≤ 6 := by unfold bt6; omega
  have hb2 : bt6 c ≤ 6 := by unfold bt6; omega
  have e1 := mnF_min (P := pR T r c) (r - 1) 1 12 98 (by omega)
  have l1 := mnF_le (P := pR T r c) (r - 1) 1 98
  have e2 := mnF_min (P := pC T r c) (c - 1) 1 (mnF (pR T r c) (r - 1) 1 12) (mnF (pR T r c) (r - 1) 1 98) (by omega)
  have l2 := mnF_le (P := pC T r c) (c - 1) 1 (mnF (pR T r c) (r - 1) 1 98)
  unfold lp at h1 ⊢
  omega
theorem tbB_s {w T : Nat → Nat} {C r c : Nat} (hw : ∀ j, j < 36 → w j ≤ 1) (hr : 1 ≤ r ∧ r < 64) (hc : 1 ≤ c ∧ c ≤ C ∧ C < 64) (ht : tbB T C r c) : tbB (upn T (64 * r + c) (vd w T r c)) C r (c + 1) := by
  intro r' c' ⟨a1, a2, a3, a4⟩
  by_cases e : r' = r ∧ c' = c
  · obtain ⟨rfl, rfl⟩ := e
    rw [upn_self]
    have h1 := bt6_pos hr.1 hr.2
    have h2 := bt6_pos hc.1 (by omega)
    unfold vd
    cases ha : alk w r' c' with
    | true =>
      rw [if_pos rfl]
      omega
    | false =>
      rw [if_neg (by decide)]
      have := lp_le (M := 12) hw hr ⟨hc.1, hc.2.1, by omega⟩ ht ha
      omega
  · rw [upn_ne (by omega)]
    exact ht r' c' ⟨a1, a2, a3, by omega⟩
/-- a row, all rows -/
def tbC (w : Nat → Nat) (r : Nat) : Nat → Nat → (Nat → Nat) → (Nat → Nat)
  | 0, _, T => T
  | f + 1, c, T => tbC w r f (c + 1) (upn T (64 * r + c) (vd w T r c))
def tbR (w : Nat → Nat) (C : Nat) : Nat → Nat → (Nat → Nat) → (Nat → Nat)
  | 0, _, T => T
  | f + 1, r, T => tbR w C f (r + 1) (tbC w r C 1 T)
def tbI (g : Nat → Int32) (T : Nat → Nat) (C r c : Nat) : Prop := ∀ r' c', dn C r c r' c' → g (64 * r' + c') = nI (T (64 * r' + c'))
theorem tbI_s {g : Nat → Int32} {T : Nat → Nat} {C r c v : Nat} (hC : C < 64) (hc : c ≤ C) (h : tbI g T C r c) : tbI (upd g (64 * r + c) (nI v)) (upn T (64 * r + c) v) C r (c + 1) := by
  intro r' c' ⟨a1, a2, a3, a4⟩
  by_cases e : r' = r ∧ c' = c
  · obtain ⟨rfl, rfl⟩ := e
    rw [upn_self, upd_self]
  · rw [upn_ne (by omega), upd_ne (by omega)]
    exact h r' c' ⟨a1, a2, a3, by omega⟩
theorem tbI_r {g : Nat → Int32} {T : Nat → Nat} {C r : Nat} (h : tbI g T C r (C + 1)) : tbI g T C (r + 1) 1 := fun r' c' ⟨a1, a2, a3, a4⟩ => h r' c' ⟨a1, a2, a3, by omega⟩
theorem tbB_r {T : Nat → Nat} {C r : Nat} (h : tbB T C r (C + 1)) : tbB T C (r + 1) 1 := fun r' c' ⟨a1, a2, a3, a4⟩ => h r' c' ⟨a1, a2, a3, by omega⟩
theorem zbit {n k : Nat} (hn : n < 64) (hk : k ≤ 5) : zShr (nI n) (nI k) &&& nI 1 = nI (bit n k) := by
  have e : zShr (nI n) (nI k) = nI (n / 2 ^ k) := by
    rcases (show k = 0 ∨ k = 1 ∨ k = 2 ∨ k = 3 ∨ k = 4 ∨ k = 5 by omega) with rfl | rfl | rfl | rfl | rfl | rfl
    · exact pk_shrN (by omega) _ 0 (by decide)
    · exact pk_shrN (by omega) _ 1 (by decide)
    · exact pk_shrN (by omega) _ 2 (by decide)
    · exact pk_shrN (by omega) _ 3 (by decide)
    · exact pk_shrN (by omega) _ 4 (by decide)
    · exact pk_shrN (by omega) _ 5 (by decide)
  have hb : n / 2 ^ k < 2 ^ 32 := Nat.lt_of_le_of_lt (Nat.div_le_self _ _) (by omega)
  rw [e, pk_andN hb 1 (by decide)]
  rfl
theorem bit_lt {n k : Nat} : bit n k < 2 := Nat.mod_lt _ (by omega)
/-! alike? -/
theorem alk_q {w : Nat → Nat} {r c : Nat} (hw : ∀ j, j < 36 → w j ≤ 1) {P : Int32 → Prop} (h : P (zBo (alk w r c))) : ((nI (onF w r c 36) = 0 → P (nI 1)) ∧ (¬ (nI (onF w r c 36) = 0) → ((¬ nI (onF w r c 36) = nI (clF r c 36) → P (nI 0)) ∧ (¬ (¬ nI (onF w r c 36) = nI (clF r c 36)) → P (nI 1))))) := by
  have h1 := onF_le (r := r) (c := c) hw 36 (Nat.le_refl _)
  have h2 := clF_le (r := r) (c := c) 36
  rw [nI_z (by omega), nI_eq (by omega) (by omega)]
  unfold alk at h
  refine ⟨fun e => ?_, fun e => ⟨fun e2 => ?_, fun e2 => ?_⟩⟩
  · rw [decide_eq_true e] at h
    exact h
  · rw [decide_eq_false e, decide_eq_false e2] at h
    exact h
  · rw [decide_eq_true (Classical.not_not.mp e2), Bool.or_true] at h
    exact h
theorem w_Re_aA_6 {w : Nat → Nat} {r c : Nat} (hr : r < 64) (hc : c < 64) {S : ZSt} {Q : ZOut → ZSt → Prop} (hS : zSh S) (hw : ∀ j, j < 36 → zI S 100 j = nI (w j) ∧ w j ≤ 1) (hQ : Q (.inl (some (.int (zBo (alk w r c))))) S) : ∀ (f k : Nat), f + k = 36 → zW 1 m_Re_areAlike 6 [some (.ref 100), some (.int (nI r)), some (.int (nI c)), some (.int (nI (clF r c k))), some (.int (nI (onF w r c k))), some (.int (nI k))] [] S Q
  | 0, k, hk => by
    obtain ⟨c1, n1⟩ := zA_of hS (c := 100) (n := 36) rfl
    obtain rfl : k = 36 := by omega
    refine b_Re_areAlike_6 hS ⟨c1, ?_⟩
    rw [n1]
    refine ⟨fun _ => ?_, fun h9 => absurd (by decide) h9⟩
    have := alk_q (P := fun x => narrow .boolean (.int x) = .int x ∧ Q (.inl (some (.int x))) S) (fun j hj => (hw j hj).2) ⟨zBo_nar, hQ⟩
    exact this
  | f + 1, k, hk => by
    obtain ⟨c1, n1⟩ := zA_of hS (c := 100) (n := 36) rfl
    have b1 := bit_lt (n := r) (k := k / 6)
    have b2 := bit_lt (n := c) (k := k % 6)
    refine b_Re_areAlike_6 hS ⟨c1, ?_⟩
    rw [n1]
    refine ⟨fun h9 => absurd h9 (nI_ge (by omega) (by omega)), fun _ => ⟨by decide, ?_⟩⟩
    rw [pk_div (by omega) (by omega) (by omega), zrem (by omega) (by omega) (by omega), zbit hr (by omega), zbit hc (by omega), nI_add, nI_add, zcl9 (by omega), (hw k (by omega)).1, nI_add]
    have e1 : clF r c (k + 1) = clF r c k + (if bit r (k / 6) = 1 ∧ bit c (k % 6) = 1 then 1 else 0) := rfl
    have e2 : onF w r c (k + 1) = onF w r c k + (if bit r (k / 6) = 1 ∧ bit c (k % 6) = 1 then w k else 0) := rfl
    have ih := w_Re_aA_6 hr hc hS hw hQ f (k + 1) (by omega)
    have skip : ¬ (bit r (k / 6) = 1 ∧ bit c (k % 6) = 1) → zW 1 m_Re_areAlike 6 [some (.ref 100), some (.int (nI r)), some (.int (nI c)), some (.int (nI (clF r c k))), some (.int (nI (onF w r c k))), some (.int (nI (k + 1)))] [] S Q := fun h => by
      rw [if_neg h, Nat.add_zero] at e1 e2
      rw [e1, e2] at ih
      exact ih
    refine ⟨fun h9 => skip (fun h => h9 (by rw [h.1])), fun h9 => ⟨by decide, fun h8 => skip (fun h => h8 (by rw [h.2])), fun h8 => ⟨c1, zin (by omega) (by omega), ?_⟩⟩⟩
    have hb : bit r (k / 6) = 1 ∧ bit c (k % 6) = 1 := ⟨nEq (by omega) (by omega) (Classical.not_not.mp h9), nEq (by omega) (by omega) (Classical.not_not.mp h8)⟩
    rw [if_pos hb] at e1 e2
    rw [e1, e2] at ih
    exact ih
theorem w_M_aA_11 {w : Nat → Nat} {r c i : Nat} (hr : r < 64) (hc : c < 64) (hi : i < 6) {S : ZSt} {Q : ZOut → ZSt → Prop} (hS : zSh S) (hw : ∀ j, j < 36 → zI S 132 (107 + j) = nI (w j) ∧ w j ≤ 1) (h : ∀ u6, zW 1 m_M_areAlike 6 [some (.ref 130), some (.int (nI r)), some (.int (nI c)), some (.int (nI (clF r c (6 * (i + 1))))), some (.int (nI (onF w r c (6 * (i + 1))))), some (.int (nI (i + 1))), u6] [] S Q) : ∀ (f k : Nat), f + k = 6 → zW 1 m_M_areAlike 11 [some (.ref 130), some (.int (nI r)), some (.int (nI c)), some (.int (nI (clF r c (6 * i + k)))), some (.int (nI (onF w r c (6 * i + k)))), some (.int (nI i)), some (.int (nI k))] [] S Q
  | 0, k, hk => by
    obtain rfl : k = 6 := by omega
    refine b_M_areAlike_11 hS ⟨fun _ => ?_, fun h9 => absurd (by decide) h9⟩
    rw [nI_add]
    exact h _
  | f + 1, k, hk => by
    have b1 := bit_lt (n := r) (k := i)
    have b2 := bit_lt (n := c) (k := k)
    have d1 : (6 * i + k) / 6 = i := by omega
    have d2 : (6 * i + k) % 6 = k := by omega
    refine b_M_areAlike_11 hS ⟨fun h9 => absurd h9 (nI_ge (by omega) (by omega)), fun _ => ?_⟩
    rw [zbit hr (by omega), zbit hc (by omega), nI_add, nI_add, pk_mul, nI_add, nI_add, zcl9 (by omega), Nat.add_assoc 107, (hw (6 * i + k) (by omega)).1, nI_add]
    have e1 : clF r c (6 * i + k + 1) = clF r c (6 * i + k) + (if bit r ((6 * i + k) / 6) = 1 ∧ bit c ((6 * i + k) % 6) = 1 then 1 else 0) := rfl
    have e2 : onF w r c (6 * i + k + 1) = onF w r c (6 * i + k) + (if bit r ((6 * i + k) / 6) = 1 ∧ bit c ((6 * i + k) % 6) = 1 then w (6 * i + k) else 0) := rfl
    rw [d1, d2] at e1 e2
    have ih := w_M_aA_11 hr hc hi hS hw h f (k + 1) (by omega)
    rw [show 6 * i + (k + 1) = 6 * i + k + 1 by omega] at ih
    have skip : ¬ (bit r i = 1 ∧ bit c k = 1) → zW 1 m_M_areAlike 11 [some (.ref 130), some (.int (nI r)), some (.int (nI c)), some (.int (nI (clF r c (6 * i + k)))), some (.int (nI (onF w r c (6 * i + k)))), some (.int (nI i)), some (.int (nI (k + 1)))] [] S Q := fun h => by
      rw [if_neg h, Nat.add_zero] at e1 e2
      rw [e1, e2] at ih
      exact ih
    rw [nI_z (by omega), nI_z (by omega)]
    refine ⟨fun h9 => skip (by omega), fun h9 => ⟨fun h8 => ⟨zin (by omega) (by omega), ?_⟩, fun h8 => skip (by omega)⟩⟩
    rw [if_pos (by omega)] at e1 e2
    rw [e1, e2] at ih
    exact ih
theorem w_M_aA_6 {w : Nat → Nat} {r c : Nat} (hr : r < 64) (hc : c < 64) {S : ZSt} {Q : ZOut → ZSt → Prop} (hS : zSh S) (hw : ∀ j, j < 36 → zI S 132 (107 + j) = nI (w j) ∧ w j ≤ 1) (hQ : Q (.inl (some (.int (zBo (alk w r c))))) S) : ∀ (f i : Nat) (u6 : Option Value), f + i = 6 → zW 1 m_M_areAlike 6 [some (.ref 130), some (.int (nI r)), some (.int (nI c)), some (.int (nI (clF r c (6 * i)))), some (.int (nI (onF w r c (6 * i)))), some (.int (nI i)), u6] [] S Q
  | 0, i, u6, hi => by
    obtain rfl : i = 6 := by omega
    refine b_M_areAlike_6 hS ⟨fun _ => ?_, fun h9 => absurd (by decide) h9⟩
    have := alk_q (P := fun x => narrow .boolean (.int x) = .int x ∧ Q (.inl (some (.int x))) S) (fun j hj => (hw j hj).2) ⟨zBo_nar, hQ⟩
    exact this
  | f + 1, i, u6, hi => b_M_areAlike_6 hS ⟨fun h9 => absurd h9 (nI_ge (by omega) (by omega)), fun _ => w_M_aA_11 hr hc (by omega) hS hw (fun u6 => w_M_aA_6 hr hc hS hw hQ f (i + 1) u6 (by omega)) 6 0 (by omega)⟩
