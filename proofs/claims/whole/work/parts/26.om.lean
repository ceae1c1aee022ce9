/-! A TASK's text, pure: signs that wait, by how closely they bind -/
def ran (s : Nat) : Nat := if s = 5 ∨ s = 6 then 5 else if s = 7 ∨ s = 8 then 6 else if s = 9 ∨ s = 10 ∨ s = 11 then 4 else if s = 12 then 1 else if s = 13 then 2 else if s = 14 then 3 else 0
def wof (r : Nat) : List Nat → Nat → List (Nat × Nat) → List Nat × Nat × List (Nat × Nat)
  | [], op, o => ([], op, o)
  | s :: W, op, o => if r ≤ ran s then wof r W (if s = 14 then op - 1 else op) (o ++ [(s, 0)]) else (s :: W, op, o)
def inn : List Nat → Nat
  | [] => 0
  | s :: W => if s = 16 ∨ s = 17 then s else inn W
def trw : List Nat → Nat
  | [] => 0
  | s :: _ => ran s
def sj (c : Nat) : Nat := if c = 43 then 5 else if c = 45 then 6 else if c = 42 then 7 else if c = 47 then 8 else 0
def sc (c : Nat) : Nat := if c = 60 then 9 else if c = 62 then 10 else if c = 61 then 11 else 0
def sw (w : Nat) : Nat := if w = sV 73 then 12 else if w = sV 71 then 13 else 0
def vwd (w : Nat) : Nat := if w = sV 61 then 1 else if w = sV 63 then 2 else if w = sV 65 then 3 else if w = sV 67 then 4 else 0
def vmq (c : Nat) : Nat := if c = 3 then 23 else 11
/-- a value: a fault, or its sign, its number, and what stands behind -/
def val (b : Nat → Nat) (e p : Nat) : (Nat × Nat) ⊕ (Nat × Nat × Nat) := if tkK b e p = 2 then (if tkV b e p ≤ 9999 then .inr (0, tkV b e p, tkE b e p) else .inl (2, tkS b e p)) else if vwd (tkW b e p) = 0 then .inl (1, tkS b e p) else if vwd (tkW b e p) = 4 then .inr (4, 0, tkE b e p) else if tkK b e (tkE b e p) = 2 then (if tkV b e (tkE b e p) ≤ vmq (vwd (tkW b e p)) then .inr (vwd (tkW b e p), tkV b e (tkE b e p), tkE b e (tkE b e p)) else .inl (2, tkS b e (tkE b e p))) else .inl (1, tkS b e (tkE b e p))
/-- what the reading of one C does: whether a value is wanting, whether a B begins with it; whether a value stands last, whether it was compared; what waits; how many are open; where; what was said -/
def om (b : Nat → Nat) (e : Nat) : Nat → Bool → Bool → Bool → Bool → List Nat → Nat → Nat → List (Nat × Nat) → (Nat × Nat) ⊕ (Nat × List (Nat × Nat))
  | 0, _, _, _, _, _, _, _, _ => .inl (0, 0)
  | f + 1, true, bb, ev, cp, W, op, p, o => if hr b e p = 40 then (if 6 ≤ op then .inl (3, tkS b e p) else om b e f true false ev cp (16 :: W) (op + 1) (tkE b e p) o)
    else if bb = true ∧ hr b e p = 91 then (if 6 ≤ op then .inl (3, tkS b e p) else om b e f true true ev false (17 :: W) (op + 1) (tkE b e p) o)
    else if bb = true ∧ tkW b e p = sV 69 then (if 6 ≤ op then .inl (3, tkS b e p) else om b e f true true ev false (14 :: W) (op + 1) (tkE b e p) o)
    else match val b e p with
      | .inl x => .inl x
      | .inr y => om b e f false bb true cp W op y.2.2 (o ++ [(y.1, y.2.1)])
  | f + 1, false, bb, ev, cp, W, op, p, o => if ev = true ∧ sj (hr b e p) ≠ 0 then om b e f true false ev cp (sj (hr b e p) :: (wof (ran (sj (hr b e p))) W op o).1) (wof (ran (sj (hr b e p))) W op o).2.1 (tkE b e p) (wof (ran (sj (hr b e p))) W op o).2.2
    else if inn W = 16 then (if hr b e p = 41 then om b e f false bb true cp (wof 1 W op o).1.tail ((wof 1 W op o).2.1 - 1) (tkE b e p) (wof 1 W op o).2.2 else .inl (1, tkS b e p))
    else if ev = true ∧ cp = false then (if sc (hr b e p) ≠ 0 then om b e f true false ev true (sc (hr b e p) :: (wof 4 W op o).1) (wof 4 W op o).2.1 (tkE b e p) (wof 4 W op o).2.2 else .inl (1, tkS b e p))
    else if sw (tkW b e p) ≠ 0 then om b e f true true ev false (sw (tkW b e p) :: (wof (ran (sw (tkW b e p))) W op o).1) (wof (ran (sw (tkW b e p))) W op o).2.1 (tkE b e p) (wof (ran (sw (tkW b e p))) W op o).2.2
    else if inn W = 17 then (if hr b e p = 93 then om b e f false bb false cp (wof 1 W op o).1.tail ((wof 1 W op o).2.1 - 1) (tkE b e p) (wof 1 W op o).2.2 else .inl (1, tkS b e p))
    else if hr b e p = 59 then .inr (tkE b e p, (wof 1 W op o).2.2 ++ [(15, 0)]) else .inl (1, tkS b e p)
theorem om_t {b : Nat → Nat} {e f : Nat} {bb ev cp : Bool} {W : List Nat} {op p : Nat} {o : List (Nat × Nat)} : om b e (f + 1) true bb ev cp W op p o = if hr b e p = 40 then (if 6 ≤ op then .inl (3, tkS b e p) else om b e f true false ev cp (16 :: W) (op + 1) (tkE b e p) o)
    else if bb = true ∧ hr b e p = 91 then (if 6 ≤ op then .inl (3, tkS b e p) else om b e f true true ev false (17 :: W) (op + 1) (tkE b e p) o)
    else if bb = true ∧ tkW b e p = sV 69 then (if 6 ≤ op then .inl (3, tkS b e p) else om b e f true true ev false (14 :: W) (op + 1) (tkE b e p) o)
    else match val b e p with
      | .inl x => .inl x
      | .inr y => om b e f false bb true cp W op y.2.2 (o ++ [(y.1, y.2.1)]) := rfl
theorem om_f {b : Nat → Nat} {e f : Nat} {bb ev cp : Bool} {W : List Nat} {op p : Nat} {o : List (Nat × Nat)} : om b e (f + 1) false bb ev cp W op p o = if ev = true ∧ sj (hr b e p) ≠ 0 then om b e f true false ev cp (sj (hr b e p) :: (wof (ran (sj (hr b e p))) W op o).1) (wof (ran (sj (hr b e p))) W op o).2.1 (tkE b e p) (wof (ran (sj (hr b e p))) W op o).2.2
    else if inn W = 16 then (if hr b e p = 41 then om b e f false bb true cp (wof 1 W op o).1.tail ((wof 1 W op o).2.1 - 1) (tkE b e p) (wof 1 W op o).2.2 else .inl (1, tkS b e p))
    else if ev = true ∧ cp = false then (if sc (hr b e p) ≠ 0 then om b e f true false ev true (sc (hr b e p) :: (wof 4 W op o).1) (wof 4 W op o).2.1 (tkE b e p) (wof 4 W op o).2.2 else .inl (1, tkS b e p))
    else if sw (tkW b e p) ≠ 0 then om b e f true true ev false (sw (tkW b e p) :: (wof (ran (sw (tkW b e p))) W op o).1) (wof (ran (sw (tkW b e p))) W op o).2.1 (tkE b e p) (wof (ran (sw (tkW b e p))) W op o).2.2
    else if inn W = 17 then (if hr b e p = 93 then om b e f false bb false cp (wof 1 W op o).1.tail ((wof 1 W op o).2.1 - 1) (tkE b e p) (wof 1 W op o).2.2 else .inl (1, tkS b e p))
    else if hr b e p = 59 then .inr (tkE b e p, (wof 1 W op o).2.2 ++ [(15, 0)]) else .inl (1, tkS b e p) := rfl
/-- blanks don't count -/
theorem val_S {b : Nat → Nat} {e p : Nat} (hp : p ≤ e) : val b e (tkS b e p) = val b e p := by
  obtain ⟨h1, h2, h3, h4, h5⟩ := tk_S (b := b) hp
  unfold val
  rw [h1, h2, h3, h4, tkS_tkS hp]
theorem om_S {b : Nat → Nat} {e f p op : Nat} {lv bb ev cp : Bool} {W : List Nat} {o : List (Nat × Nat)} (hp : p ≤ e) : om b e f lv bb ev cp W op (tkS b e p) o = om b e f lv bb ev cp W op p o := by
  obtain ⟨h1, h2, h3, h4, h5⟩ := tk_S (b := b) hp
  cases f with
  | zero => rfl
  | succ f =>
    cases lv with
    | true => rw [om_t, om_t, h2, h4, h5, tkS_tkS hp, val_S hp]
    | false => rw [om_f, om_f, h2, h4, h5, tkS_tkS hp]
theorem wof_lt {r op : Nat} {W : List Nat} {o : List (Nat × Nat)} (h : trw W < r) : wof r W op o = (W, op, o) := by
  cases W with
  | nil => rfl
  | cons s W =>
    have h' : ran s < r := h
    show (if r ≤ ran s then _ else _) = _
    rw [if_neg (by omega)]
theorem wof_s {r s op : Nat} {W : List Nat} {o : List (Nat × Nat)} (h : r ≤ ran s) : wof r (s :: W) op o = wof r W (if s = 14 then op - 1 else op) (o ++ [(s, 0)]) := if_pos h
theorem wof_wof {r r' : Nat} (h : r' ≤ r) : ∀ (W : List Nat) (op : Nat) (o : List (Nat × Nat)), wof r' (wof r W op o).1 (wof r W op o).2.1 (wof r W op o).2.2 = wof r' W op o
  | [], _, _ => rfl
  | s :: W, op, o => by
    by_cases c : r ≤ ran s
    · rw [wof_s c, wof_wof h W, wof_s (by omega)]
    · rw [wof_lt (show trw (s :: W) < r from Nat.lt_of_not_le c)]
theorem wof_of {r r' : Nat} (h : r' ≤ r) {W W1 : List Nat} {op op1 : Nat} {o o1 : List (Nat × Nat)} (hw : wof r W op o = (W1, op1, o1)) : wof r' W op o = wof r' W1 op1 o1 := by
  have := wof_wof h W op o
  rw [hw] at this
  exact this.symm
theorem inn_wof {r : Nat} (h : 1 ≤ r) : ∀ (W : List Nat) (op : Nat) (o : List (Nat × Nat)), inn (wof r W op o).1 = inn W
  | [], _, _ => rfl
  | s :: W, op, o => by
    by_cases c : r ≤ ran s
    · rw [wof_s c, inn_wof h W]
      have : ¬ (s = 16 ∨ s = 17) := fun z => by
        rcases z with z | z <;> rw [z] at c <;> exact absurd c (by show ¬ r ≤ 0; omega)
      show _ = if s = 16 ∨ s = 17 then s else inn W
      rw [if_neg this]
    · rw [wof_lt (show trw (s :: W) < r from Nat.lt_of_not_le c)]
theorem inn_of {r : Nat} (h : 1 ≤ r) {W W1 : List Nat} {op op1 : Nat} {o o1 : List (Nat × Nat)} (hw : wof r W op o = (W1, op1, o1)) : inn W = inn W1 := by
  have := inn_wof h W op o
  rw [hw] at this
  exact this.symm
theorem sj_r {c : Nat} (h : sj c ≠ 0) : (c = 43 ∧ sj c = 5 ∧ ran (sj c) = 5) ∨ (c = 45 ∧ sj c = 6 ∧ ran (sj c) = 5) ∨ (c = 42 ∧ sj c = 7 ∧ ran (sj c) = 6) ∨ (c = 47 ∧ sj c = 8 ∧ ran (sj c) = 6) := by
  by_cases h1 : c = 43
  · subst h1
    exact Or.inl ⟨rfl, rfl, rfl⟩
  · by_cases h2 : c = 45
    · subst h2
      exact Or.inr (Or.inl ⟨rfl, rfl, rfl⟩)
    · by_cases h3 : c = 42
      · subst h3
        exact Or.inr (Or.inr (Or.inl ⟨rfl, rfl, rfl⟩))
      · by_cases h4 : c = 47
        · subst h4
          exact Or.inr (Or.inr (Or.inr ⟨rfl, rfl, rfl⟩))
        · exact absurd (by unfold sj; rw [if_neg h1, if_neg h2, if_neg h3, if_neg h4]) h
theorem sc_r {c : Nat} (h : sc c ≠ 0) : (c = 60 ∧ sc c = 9) ∨ (c = 62 ∧ sc c = 10) ∨ (c = 61 ∧ sc c = 11) := by
  by_cases h1 : c = 60
  · subst h1
    exact Or.inl ⟨rfl, rfl⟩
  · by_cases h2 : c = 62
    · subst h2
      exact Or.inr (Or.inl ⟨rfl, rfl⟩)
    · by_cases h3 : c = 61
      · subst h3
        exact Or.inr (Or.inr ⟨rfl, rfl⟩)
      · exact absurd (by unfold sc; rw [if_neg h1, if_neg h2, if_neg h3]) h
theorem sVne : sV 73 ≠ sV 71 ∧ sV 61 ≠ sV 63 ∧ sV 61 ≠ sV 65 ∧ sV 61 ≠ sV 67 ∧ sV 63 ≠ sV 65 ∧ sV 63 ≠ sV 67 ∧ sV 65 ≠ sV 67 ∧ sV 61 ≠ 0 ∧ sV 63 ≠ 0 ∧ sV 65 ≠ 0 ∧ sV 67 ≠ 0 ∧ sV 69 ≠ 0 ∧ sV 71 ≠ 0 ∧ sV 73 ≠ 0 := by decide +kernel
