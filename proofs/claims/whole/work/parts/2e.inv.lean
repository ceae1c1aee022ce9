/-! A TASK's text: what holds while it is read -/
def opn (s : Nat) : Prop := s = 14 ∨ s = 16 ∨ s = 17
def bdS (s : Nat) : Nat := if s = 17 then 0 else if s = 12 then 1 else if s = 13 ∨ s = 14 then 2 else if s = 9 ∨ s = 10 ∨ s = 11 ∨ s = 16 then 3 else if s = 5 ∨ s = 6 then 4 else 5
def tbS : List Nat → Nat
  | [] => 0
  | s :: _ => bdS s
/-- how many may wait -/
def wsz : List Nat → Nat → Prop
  | [], op => op = 0
  | s :: W, op => ((opn s → 0 < op ∧ wsz W (op - 1)) ∧ (¬ opn s → wsz W op)) ∧ (W.length + 1 ≤ 3 * op + bdS s ∧ 5 ≤ s ∧ s ≤ 17 ∧ s ≠ 15)
theorem wsz.le {W : List Nat} {op : Nat} (h : wsz W op) : W.length ≤ 3 * op + tbS W := by
  cases W with
  | nil => exact Nat.zero_le _
  | cons s W => exact h.2.1
theorem bdS_le {s : Nat} : bdS s ≤ 5 := by
  unfold bdS
  split
  · omega
  · split
    · omega
    · split
      · omega
      · split
        · omega
        · split <;> omega
theorem tbS_le {W : List Nat} : tbS W ≤ 5 := by
  cases W with
  | nil => exact Nat.zero_le _
  | cons s W => exact bdS_le
/-- how many wait for their right side -/
def nbW : List Nat → Nat
  | [] => 0
  | s :: W => if s = 14 ∨ s = 16 ∨ s = 17 then nbW W else nbW W + 1
theorem nbW_le : ∀ (W : List Nat), nbW W ≤ W.length
  | [] => Nat.le_refl _
  | s :: W => by
    have := nbW_le W
    have e : nbW (s :: W) = if s = 14 ∨ s = 16 ∨ s = 17 then nbW W else nbW W + 1 := rfl
    have eL : (s :: W).length = W.length + 1 := rfl
    rw [e, eL]
    split <;> omega
/-- worked from a depth to a depth -/
def wfR : List (Nat × Nat) → Nat → Nat → Prop
  | [], d, d' => d = d'
  | (c, v) :: r, d, d' => c ≤ 14 ∧ (if c ≤ 4 then d < 32 ∧ vok c v ∧ wfR r (d + 1) d' else if c < 14 then 2 ≤ d ∧ wfR r (d - 1) d' else 1 ≤ d ∧ wfR r d d')
theorem wfR_E : ∀ (o : List (Nat × Nat)) (d : Nat), wfR o d 1 → wfE o d
  | [], d, h => h
  | (c, v) :: r, d, h => by
    obtain ⟨h1, h2⟩ := h
    refine ⟨h1, ?_⟩
    by_cases c4 : c ≤ 4
    · rw [if_pos c4] at h2 ⊢
      exact ⟨h2.1, h2.2.1, wfR_E r _ h2.2.2⟩
    · rw [if_neg c4] at h2 ⊢
      by_cases c14 : c < 14
      · rw [if_pos c14] at h2 ⊢
        exact ⟨h2.1, wfR_E r _ h2.2⟩
      · rw [if_neg c14] at h2 ⊢
        exact ⟨h2.1, wfR_E r _ h2.2⟩
theorem wfR_a {c v d' d'' : Nat} (h1 : wfR [(c, v)] d' d'') : ∀ (o : List (Nat × Nat)) (d : Nat), wfR o d d' → wfR (o ++ [(c, v)]) d d''
  | [], d, h => by
    have h' : d = d' := h
    rw [h']
    exact h1
  | (x, y) :: r, d, h => by
    obtain ⟨g1, g2⟩ := h
    refine ⟨g1, ?_⟩
    by_cases c4 : x ≤ 4
    · rw [if_pos c4] at g2 ⊢
      exact ⟨g2.1, g2.2.1, wfR_a h1 r _ g2.2.2⟩
    · rw [if_neg c4] at g2 ⊢
      by_cases c14 : x < 14
      · rw [if_pos c14] at g2 ⊢
        exact ⟨g2.1, wfR_a h1 r _ g2.2⟩
      · rw [if_neg c14] at g2 ⊢
        exact ⟨g2.1, wfR_a h1 r _ g2.2⟩
theorem wfR_v {c v d : Nat} (h4 : c ≤ 4) (hd : d < 32) (hv : vok c v) : wfR [(c, v)] d (d + 1) := ⟨by omega, by rw [if_pos h4]; exact ⟨hd, hv, rfl⟩⟩
theorem wfR_b {c v d : Nat} (h : 5 ≤ c ∧ c < 14) (hd : 1 ≤ d) : wfR [(c, v)] (d + 1) d := ⟨by omega, by rw [if_neg (by omega), if_pos h.2]; exact ⟨by omega, by show d + 1 - 1 = d; omega⟩⟩
theorem wfR_n {v d : Nat} (hd : 1 ≤ d) : wfR [(14, v)] d d := ⟨by omega, by rw [if_neg (by omega), if_neg (by omega)]; exact ⟨hd, rfl⟩⟩
theorem ran_17 : ran 16 = 0 ∧ ran 17 = 0 ∧ ran 14 = 3 := ⟨rfl, rfl, rfl⟩
theorem wof_i {r : Nat} (hr' : 1 ≤ r) : ∀ (W : List Nat) (op : Nat) (o : List (Nat × Nat)), wsz W op → wfR o 0 (nbW W + 1) → wsz (wof r W op o).1 (wof r W op o).2.1 ∧ wfR (wof r W op o).2.2 0 (nbW (wof r W op o).1 + 1) ∧ (wof r W op o).1.length + (wof r W op o).2.2.length = W.length + o.length ∧ (wof r W op o).2.1 ≤ op ∧ trw (wof r W op o).1 < r
  | [], op, o, h1, h2 => ⟨h1, h2, rfl, Nat.le_refl _, by show (0 : Nat) < r; omega⟩
  | s :: W, op, o, h1, h2 => by
    by_cases c : r ≤ ran s
    · obtain ⟨⟨a1, a2⟩, a3, a4, a5, a6⟩ := h1
      have n16 : s ≠ 16 := fun y => by
        rw [y, ran_17.1] at c
        omega
      have n17 : s ≠ 17 := fun y => by
        rw [y, ran_17.2.1] at c
        omega
      have el : (o ++ [(s, 0)]).length = o.length + 1 := by rw [List.length_append]; rfl
      have eW : (s :: W).length = W.length + 1 := rfl
      rw [wof_s c]
      by_cases c14 : s = 14
      · obtain ⟨b1, b2⟩ := a1 (Or.inl c14)
        have hn : nbW (s :: W) = nbW W := if_pos (Or.inl c14)
        rw [hn] at h2
        rw [if_pos c14]
        have w1 : wfR (o ++ [(s, 0)]) 0 (nbW W + 1) := by
          rw [c14]
          exact wfR_a (wfR_n (by omega)) o 0 h2
        obtain ⟨g1, g2, g3, g4, g5⟩ := wof_i hr' W (op - 1) (o ++ [(s, 0)]) b2 w1
        exact ⟨g1, g2, by omega, by omega, g5⟩
      · have no : ¬ opn s := fun y => by
          rcases y with y | y | y
          · exact c14 y
          · exact n16 y
          · exact n17 y
        have b2 := a2 no
        have hn : nbW (s :: W) = nbW W + 1 := if_neg no
        rw [hn] at h2
        rw [if_neg c14]
        have w1 : wfR (o ++ [(s, 0)]) 0 (nbW W + 1) := wfR_a (wfR_b (by omega) (by omega)) o 0 h2
        obtain ⟨g1, g2, g3, g4, g5⟩ := wof_i hr' W op (o ++ [(s, 0)]) b2 w1
        exact ⟨g1, g2, by omega, by omega, g5⟩
    · have lt : trw (s :: W) < r := Nat.lt_of_not_le c
      rw [wof_lt lt]
      exact ⟨h1, h2, rfl, Nat.le_refl _, lt⟩
/-- what holds: what waits, how many stand unclosed, how much was said -/
def iOm (B : Nat) (lv bb : Bool) (W : List Nat) (op p : Nat) (o : List (Nat × Nat)) : Prop := wsz W op ∧ op ≤ 6 ∧ B + o.length + W.length ≤ p ∧ wfR o 0 (nbW W + (if lv = true then 0 else 1)) ∧ (lv = true → bb = true → tbS W ≤ 2)
theorem iOm.len {B op p : Nat} {lv bb : Bool} {W : List Nat} {o : List (Nat × Nat)} (h : iOm B lv bb W op p o) : W.length ≤ 23 := by
  have := h.1.le
  have := tbS_le (W := W)
  have := h.2.1
  omega
/-- something opens -/
theorem iOm.opns {B op p p' s : Nat} {bb bb' : Bool} {W : List Nat} {o : List (Nat × Nat)} (h : iOm B true bb W op p o) (h6 : op < 6) (hp : p < p') (hs : (s = 16 ∧ bb' = false) ∨ ((s = 17 ∨ s = 14) ∧ bb = true)) : iOm B true bb' (s :: W) (op + 1) p' o := by
  obtain ⟨h1, h2, h3, h4, h5⟩ := h
  have hl := h1.le
  have ho : opn s := by
    rcases hs with y | ⟨y | y, -⟩
    · exact Or.inr (Or.inl y.1)
    · exact Or.inr (Or.inr y)
    · exact Or.inl y
  have hn : nbW (s :: W) = nbW W := if_pos ho
  have hb : W.length + 1 ≤ 3 * (op + 1) + bdS s := by
    rcases hs with y | ⟨y | y, y2⟩
    · have := tbS_le (W := W)
      rw [y.1, show bdS 16 = 3 from rfl]
      omega
    · have := h5 rfl y2
      omega
    · have := h5 rfl y2
      omega
  refine ⟨⟨⟨fun _ => ⟨by omega, h1⟩, fun y => absurd ho y⟩, hb, ?_⟩, by omega, by show B + o.length + (W.length + 1) ≤ p'; omega, by rw [hn]; exact h4, fun _ y => ?_⟩
  · rcases hs with y | ⟨y | y, -⟩ <;> omega
  · rcases hs with z | ⟨z | z, -⟩
    · rw [z.2] at y
      cases y
    · rw [z]
      show bdS 17 ≤ 2
      decide
    · rw [z]
      show bdS 14 ≤ 2
      decide
/-- a value -/
theorem iOm.val {B op p p' c v : Nat} {bb bb' : Bool} {W : List Nat} {o : List (Nat × Nat)} (h : iOm B true bb W op p o) (hp : p < p') (h4 : c ≤ 4) (hv : vok c v) : iOm B false bb' W op p' (o ++ [(c, v)]) := by
  have hl := h.len
  have hn := nbW_le W
  obtain ⟨h1, h2, h3, g4, h5⟩ := h
  have el : (o ++ [(c, v)]).length = o.length + 1 := by rw [List.length_append]; rfl
  refine ⟨h1, h2, by omega, ?_, fun y => by cases y⟩
  exact wfR_a (wfR_v h4 (by omega) hv) o 0 g4
/-- a sign that joins -/
theorem iOm.join {B op p p' s : Nat} {bb bb' : Bool} {W : List Nat} {o : List (Nat × Nat)} (h : iOm B false bb W op p o) (hp : p < p') (hs : ((s = 5 ∨ s = 6) ∨ (s = 7 ∨ s = 8)) ∧ bb' = false ∨ (inn W ≠ 16 ∧ (((s = 9 ∨ s = 10 ∨ s = 11) ∧ bb' = false) ∨ (s = 12 ∨ s = 13)))) : iOm B true bb' (s :: (wof (ran s) W op o).1) (wof (ran s) W op o).2.1 p' (wof (ran s) W op o).2.2 := by
  obtain ⟨h1, h2, h3, g4, h5⟩ := h
  have r1 : 1 ≤ ran s := by
    rcases hs with ⟨(y | y) | (y | y), -⟩ | ⟨-, ⟨y | y | y, -⟩ | (y | y)⟩ <;> rw [y] <;> decide
  have no : ¬ opn s := fun y => by
    rcases hs with ⟨(z | z) | (z | z), -⟩ | ⟨-, ⟨z | z | z, -⟩ | (z | z)⟩ <;> rcases y with y | y | y <;> omega
  obtain ⟨a1, a2, a3, a4, a5⟩ := wof_i r1 W op o h1 g4
  have ai := inn_wof r1 W op o
  generalize wof (ran s) W op o = X at a1 a2 a3 a4 a5 ai ⊢
  obtain ⟨W1, op1, o1⟩ := X
  have a1 : wsz W1 op1 := a1
  have a4 : op1 ≤ op := a4
  have hl := a1.le
  have hn : nbW (s :: W1) = nbW W1 + 1 := if_neg no
  have a5 : trw W1 < ran s := a5
  have ai : inn W1 = inn W := ai
  have a3 : W1.length + o1.length = W.length + o.length := a3
  -- what is topmost binds less
  have tb : tbS W1 + 1 ≤ bdS s := by
    cases W1 with
    | nil => rcases hs with ⟨(y | y) | (y | y), -⟩ | ⟨-, ⟨y | y | y, -⟩ | (y | y)⟩ <;> rw [y] <;> decide
    | cons x W1 =>
      obtain ⟨-, -, x5, x17, x15⟩ := a1
      have a5 : ran x < ran s := a5
      have n16 : inn W ≠ 16 → x ≠ 16 := fun y z => y (by rw [← ai, z]; rfl)
      show bdS x + 1 ≤ bdS s
      have hx : x = 5 ∨ x = 6 ∨ x = 7 ∨ x = 8 ∨ x = 9 ∨ x = 10 ∨ x = 11 ∨ x = 12 ∨ x = 13 ∨ x = 14 ∨ x = 16 ∨ x = 17 := by omega
      rcases hs with ⟨(y | y) | (y | y), -⟩ | ⟨i, ⟨y | y | y, -⟩ | (y | y)⟩ <;> subst y <;> rcases hx with y | y | y | y | y | y | y | y | y | y | y | y <;> subst y <;> first | decide | exact absurd a5 (by decide) | exact absurd rfl (n16 i)
  refine ⟨⟨⟨fun y => absurd y no, fun _ => a1⟩, by show W1.length + 1 ≤ 3 * op1 + bdS s; omega, ?_⟩, by show op1 ≤ 6; omega, by show B + o1.length + (W1.length + 1) ≤ p'; omega, by rw [hn]; exact a2, fun _ y => ?_⟩
  · rcases hs with ⟨(y | y) | (y | y), -⟩ | ⟨-, ⟨y | y | y, -⟩ | (y | y)⟩ <;> omega
  · rcases hs with ⟨-, z⟩ | ⟨-, ⟨-, z⟩ | (z | z)⟩
    · rw [z] at y
      cases y
    · rw [z] at y
      cases y
    · rw [z]
      show bdS 12 ≤ 2
      decide
    · rw [z]
      show bdS 13 ≤ 2
      decide
/-- what stands unclosed closes -/
theorem wof_top {r x : Nat} : ∀ (W : List Nat) (op : Nat) (o : List (Nat × Nat)), r = 1 → wsz W op → inn W = x → x ≠ 0 → ∃ W2, (wof r W op o).1 = x :: W2
  | [], op, o, _, _, h, h0 => absurd h.symm h0
  | s :: W, op, o, h1, hz, h, h0 => by
    by_cases c : s = 16 ∨ s = 17
    · have e : inn (s :: W) = s := if_pos c
      rw [e] at h
      have lt : trw (s :: W) < r := by
        rw [h1]
        rcases c with c | c
        · rw [c]
          show (0 : Nat) < 1
          omega
        · rw [c]
          show (0 : Nat) < 1
          omega
      rw [wof_lt lt]
      exact ⟨W, by rw [h]⟩
    · have e : inn (s :: W) = inn W := if_neg c
      rw [e] at h
      obtain ⟨⟨a1, a2⟩, a3, a4, a5, a6⟩ := hz
      have rs : r ≤ ran s := by
        rw [h1]
        have hx : s = 5 ∨ s = 6 ∨ s = 7 ∨ s = 8 ∨ s = 9 ∨ s = 10 ∨ s = 11 ∨ s = 12 ∨ s = 13 ∨ s = 14 := by omega
        rcases hx with y | y | y | y | y | y | y | y | y | y <;> rw [y] <;> decide
      rw [wof_s rs]
      by_cases c14 : s = 14
      · rw [if_pos c14]
        exact wof_top W _ _ h1 (a1 (Or.inl c14)).2 h h0
      · rw [if_neg c14]
        exact wof_top W _ _ h1 (a2 (fun y => by
          rcases y with y | y | y
          · exact c14 y
          · exact c (Or.inl y)
          · exact c (Or.inr y))) h h0
theorem iOm.close {B op p p' x : Nat} {bb bb' : Bool} {W : List Nat} {o : List (Nat × Nat)} (h : iOm B false bb W op p o) (hp : p < p') (hx : x = 16 ∨ x = 17) (hi : inn W = x) : iOm B false bb' (wof 1 W op o).1.tail ((wof 1 W op o).2.1 - 1) p' (wof 1 W op o).2.2 ∧ ∃ W2, (wof 1 W op o).1 = x :: W2 := by
  obtain ⟨h1, h2, h3, g4, h5⟩ := h
  obtain ⟨a1, a2, a3, a4, a5⟩ := wof_i (r := 1) (Nat.le_refl _) W op o h1 g4
  obtain ⟨W2, eW⟩ := wof_top (r := 1) W op o rfl h1 hi (by rcases hx with y | y <;> omega)
  refine ⟨?_, W2, eW⟩
  generalize wof 1 W op o = X at a1 a2 a3 a4 a5 eW ⊢
  obtain ⟨W1, op1, o1⟩ := X
  have eW : W1 = x :: W2 := eW
  subst eW
  have a3 : W2.length + 1 + o1.length = W.length + o.length := a3
  have a4 : op1 ≤ op := a4
  have hn : nbW (x :: W2) = nbW W2 := if_pos (Or.inr hx)
  have a2 : wfR o1 0 (nbW (x :: W2) + 1) := a2
  rw [hn] at a2
  exact ⟨(a1.1.1 (Or.inr hx)).2, by show op1 - 1 ≤ 6; omega, by show B + o1.length + W2.length ≤ p'; omega, a2, fun y => by cases y⟩
theorem wof_nil : ∀ (W : List Nat) (op : Nat) (o : List (Nat × Nat)), wsz W op → inn W ≠ 16 → inn W ≠ 17 → (wof 1 W op o).1 = []
  | [], op, o, _, _, _ => rfl
  | s :: W, op, o, hz, h6, h7 => by
    have c : ¬ (s = 16 ∨ s = 17) := fun y => by
      have e : inn (s :: W) = s := if_pos y
      rcases y with y | y
      · exact h6 (e.trans y)
      · exact h7 (e.trans y)
    have e : inn (s :: W) = inn W := if_neg c
    rw [e] at h6 h7
    obtain ⟨⟨a1, a2⟩, a3, a4, a5, a6⟩ := hz
    have rs : 1 ≤ ran s := by
      have hx : s = 5 ∨ s = 6 ∨ s = 7 ∨ s = 8 ∨ s = 9 ∨ s = 10 ∨ s = 11 ∨ s = 12 ∨ s = 13 ∨ s = 14 := by omega
      rcases hx with y | y | y | y | y | y | y | y | y | y <;> rw [y] <;> decide
    rw [wof_s rs]
    by_cases c14 : s = 14
    · rw [if_pos c14]
      exact wof_nil W _ _ (a1 (Or.inl c14)).2 h6 h7
    · rw [if_neg c14]
      exact wof_nil W _ _ (a2 (fun y => by
        rcases y with y | y | y
        · exact c14 y
        · exact c (Or.inl y)
        · exact c (Or.inr y))) h6 h7
