/-! Runs: alike -/
def zKeys : List Nat := [4, 5, 11, 14, 15, 20, 34]
/-- ints alone have changed, in the cells of l, of the reference's own cell none that stays -/
def zOnly3 (l : List Nat) (n : Nat) (S S' : ZSt) : Prop := (∀ c, zmem c l = false → zI S' c = zI S c) ∧ (∀ j, zmem j zKeys = true → zI S' 130 j = zI S 130 j) ∧ (∀ c, c ≠ 161 → zL S' c = zL S c) ∧ zR S' = zR S ∧ zn S' = zn S ∧ zc S' = zc S ∧ zx S' = zx S ∧ (zu S ≤ zu S' ∧ zu S' ≤ zu S + n) ∧ zz S ≤ zz S' ∧ zz S' ≤ zz S + 50 * n
theorem zOnly.to3 {l : List Nat} {n : Nat} {S S' : ZSt} (h : zOnly l n S S') : zOnly3 l n S S' := by
  obtain ⟨h1, h2, h3⟩ := h
  exact ⟨h1, fun j hj => h2 j (fun e => by rw [e] at hj; cases hj), h3⟩
theorem zOnly3.sh {l : List Nat} {n : Nat} {S S' : ZSt} (h : zOnly3 l n S S') (hS : zSh S) : zSh S' := by
  obtain ⟨-, -, -, h3, h4, h5, h6, -⟩ := h
  unfold zSh
  rw [h3, h4, h5, h6]
  exact hS
theorem zOnly3.mk {l : List Nat} {S Sc S' : ZSt} {x : Int64} (h1 : zJ l S Sc) (h2 : zJ l (zsL Sc 161 0 x) S') (hk : ∀ j, zmem j zKeys = true → zI S' 130 j = zI S 130 j) : zOnly3 l 1 S S' := by
  obtain ⟨a1, a2⟩ := h1
  obtain ⟨b1, b2⟩ := h2
  refine ⟨fun c hc => (b2 c hc).trans (a2 c hc), hk, fun c hc => ?_, ?_, ?_, ?_, ?_, ?_, ?_⟩
  · show S'.2.1 c = S.2.1 c
    rw [b1, ← a1]
    exact zup_ne hc
  · show S'.2.2.1 = S.2.2.1
    rw [b1, ← a1]
    rfl
  · show S'.2.2.2.1 = S.2.2.2.1
    rw [b1, ← a1]
    rfl
  · show S'.2.2.2.2.1 = S.2.2.2.2.1
    rw [b1, ← a1]
    rfl
  · show S'.2.2.2.2.2.1 = S.2.2.2.2.2.1
    rw [b1, ← a1]
    rfl
  · show S.2.2.2.2.2.2.1 ≤ S'.2.2.2.2.2.2.1 ∧ S'.2.2.2.2.2.2.1 ≤ S.2.2.2.2.2.2.1 + 1
    rw [b1, ← a1]
    exact ⟨Nat.le_refl _, Nat.le_succ _⟩
  · show S.2.2.2.2.2.2.2 ≤ S'.2.2.2.2.2.2.2 ∧ S'.2.2.2.2.2.2.2 ≤ S.2.2.2.2.2.2.2 + 50 * 1
    rw [b1, ← a1]
    exact ⟨Nat.le_refl _, Nat.le_add_right _ _⟩
def zAns3 (l : List Nat) (S : ZSt) (P : ZSt → Prop) : Int32 → Value → ZSt → Prop := fun kk b S2 => ∃ b' : Int32, b = .int b' ∧ zI S2 130 0 = kk ∧ (kk = nI 0 → zL S2 161 0 = b'.toInt64) ∧ zOnly3 l 1 S S2 ∧ P S2
theorem zAns.to3 {l : List Nat} {S : ZSt} {P : ZSt → Prop} {kk : Int32} {b : Value} {S2 : ZSt} (h : zAns l S P kk b S2) : zAns3 l S P kk b S2 := by
  obtain ⟨b', h1, h2, h3, h4, h5⟩ := h
  exact ⟨b', h1, h2, h3, h4.to3, h5⟩
def ovF (f g : Nat → Int32) (a k : Nat) : Nat → Int32 := fun j => if a ≤ j ∧ j < a + k then g (j - a) else f j
theorem ovF_step {f g : Nat → Int32} {a k : Nat} : ∀ j, ovF f g a (k + 1) j = if j = a + k then g k else ovF f g a k j := fun j => by
  unfold ovF
  by_cases h : j = a + k
  · rw [if_pos (by omega), if_pos h, h, Nat.add_sub_cancel_left]
  · rw [if_neg h]
    by_cases h2 : a ≤ j ∧ j < a + k
    · rw [if_pos h2, if_pos (by omega)]
    · rw [if_neg h2, if_neg (by omega)]
theorem ovF_0 {f g : Nat → Int32} {a : Nat} : ∀ j, ovF f g a 0 j = f j := fun j => by
  unfold ovF
  rw [if_neg (by omega)]
theorem ovF_in {f g : Nat → Int32} {a k j : Nat} (h : j < k) : ovF f g a k (a + j) = g j := by
  unfold ovF
  rw [if_pos (by omega), Nat.add_sub_cancel_left]
theorem ovF_out {f g : Nat → Int32} {a k j : Nat} (h : j < a ∨ a + k ≤ j) : ovF f g a k j = f j := by
  unfold ovF
  rw [if_neg (by omega)]
theorem w_M_run_62 {x1 x2 : Int32} : ∀ (f k : Nat) {S S1 : ZSt} {Q : ZOut → ZSt → Prop}, zSh S → f + k = 12 → zCp 132 S S1 (ovF (zI S 132) (zI S 146) 47 k) → (∀ S', zCp 132 S S' (ovF (zI S 132) (zI S 146) 47 12) → zW 4 m_M_run 79 [some (.ref 130), some (.int x1), some (.int x2), some (.int (nI 0))] [] S' Q) → zW 4 m_M_run 62 [some (.ref 130), some (.int x1), some (.int x2), some (.int (nI k))] [] S1 Q
  | 0, k, S, S1, Q, hS, hk, hc, h => by
    obtain rfl : k = 12 := by omega
    exact b_M_run_62 (zSh_of hc.1 hS) (pk_le 12 12 (fun _ => h S1 hc) (fun h9 => by omega))
  | f + 1, k, S, S1, Q, hS, hk, hc, h => by
    refine b_M_run_62 (zSh_of hc.1 hS) (pk_le 12 k (fun h9 => by omega) (fun h9 => ?_))
    rw [nI_add, nI_add, zcl9 (by omega), zcl9 (by omega)]
    refine ⟨zin (by omega) (by omega), zin (by omega) (by omega), w_M_run_62 f (k + 1) hS (by omega) (hc.step fun j => ?_) h⟩
    rw [hc.2.1 146 (by omega), ovF_step]
theorem w_M_run_79 {x1 x2 : Int32} : ∀ (f k : Nat) {S S1 : ZSt} {Q : ZOut → ZSt → Prop}, zSh S → f + k = 24 → zCp 132 S S1 (ovF (zI S 132) (zI S 147) 59 k) → (∀ S', zCp 132 S S' (ovF (zI S 132) (zI S 147) 59 24) → Q (.inl (some (.int (zI S 130 29)))) S') → zW 4 m_M_run 79 [some (.ref 130), some (.int x1), some (.int x2), some (.int (nI k))] [] S1 Q
  | 0, k, S, S1, Q, hS, hk, hc, h => by
    obtain rfl : k = 24 := by omega
    refine b_M_run_79 (zSh_of hc.1 hS) (pk_le 24 24 (fun _ => ?_) (fun h9 => by omega))
    rw [hc.2.1 130 (by omega)]
    exact h S1 hc
  | f + 1, k, S, S1, Q, hS, hk, hc, h => by
    refine b_M_run_79 (zSh_of hc.1 hS) (pk_le 24 k (fun h9 => by omega) (fun h9 => ?_))
    rw [nI_add, nI_add, zcl9 (by omega), zcl9 (by omega)]
    refine ⟨zin (by omega) (by omega), zin (by omega) (by omega), w_M_run_79 f (k + 1) hS (by omega) (hc.step fun j => ?_) h⟩
    rw [hc.2.1 147 (by omega), ovF_step]
/-- what a run leaves behind in the state -/
theorem w_St_remember {S : ZSt} {Q : ZOut → ZSt → Prop} (hS : zSh S) (hQ : ∀ S', zJ [92, 96, 97, 98] S S' → zI S' 92 3 = nI 1 → (∀ j, j ≠ 3 → zI S' 92 j = zI S 92 j) → zI S' 96 0 = zI S 106 5 → zI S' 96 1 = zI S 106 4 → zI S' 96 2 = zI S 106 3 → zI S' 96 3 = zI S 106 6 → (∀ j, j < 12 → zI S' 97 j = zI S 108 j) → (∀ j, j < 24 → zI S' 98 j = zI S 109 j) → Q (.inl none) S') : zC m_St_remember [.ref 92, .ref 106] S Q := by
  refine b_St_remember hS ?_
  rw [cl0, cl12, cl24]
  obtain ⟨c97, n97⟩ := zA_of hS (c := 97) (n := 12) rfl
  obtain ⟨c98, n98⟩ := zA_of hS (c := 98) (n := 24) rfl
  obtain ⟨c108, n108⟩ := zA_of hS (c := 108) (n := 12) rfl
  obtain ⟨c109, n109⟩ := zA_of hS (c := 109) (n := 24) rfl
  refine ⟨Or.inr (by decide), zinl rfl, zinl rfl, zinl rfl, zinl rfl, c108, c97, by decide, by decide, by decide, (by show 0 + 12 ≤ zn S 108; rw [n108]; decide), (by show 0 + 12 ≤ zn S 97; rw [n97]; decide), c109, c98, by decide, by decide, by decide, (by show 0 + 24 ≤ zn S 109; rw [n109]; decide), (by show 0 + 24 ≤ zn S 98; rw [n98]; decide), ?_⟩
  refine hQ _ (((((((zJ.rf.I rfl).I rfl).I rfl).I rfl).I rfl).W rfl).W rfl) rfl (fun j hj => ?_) rfl rfl rfl rfl (fun j hj => ?_) (fun j hj => ?_)
  · show zI (zsI S 92 3 (nI 1)) 92 j = _
    exact zI_o hj
  · show va_cpy (zI S 108) (zI S 97) 0 0 12 j = _
    rw [pk_cpy_in (by omega) (by omega), show 0 + (j - 0) = j by omega]
  · show va_cpy (zI S 109) (zI S 98) 0 0 24 j = _
    rw [pk_cpy_in (by omega) (by omega), show 0 + (j - 0) = j by omega]
