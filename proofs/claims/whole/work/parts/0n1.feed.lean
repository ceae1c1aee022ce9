/-! Feeding: alike -/
def jTape (S : ZSt) : Prop := ∃ n, n ≤ 400 ∧ zI S 76 1 = nI n ∧ zI S 130 5 = nI n ∧ ∀ j, j < n → zI S 77 j = zI S 134 j ∧ ∃ b, b < 256 ∧ zI S 77 j = nI b
theorem by8_r (x : Int32) (k : Nat) : ∃ b, b < 256 ∧ by8 x k = nI b := pk_andE _ 8 (by decide +kernel)
/-- what feeding changes -/
def zFed (S S2 : ZSt) : Prop := S2.2 = S.2 ∧ (∀ c, c ≠ 76 → c ≠ 77 → c ≠ 130 → c ≠ 134 → zI S2 c = zI S c) ∧ (∀ j, j ≠ 1 → zI S2 76 j = zI S 76 j) ∧ ∀ j, j ≠ 0 → j ≠ 5 → zI S2 130 j = zI S 130 j
theorem p_feed {a b c d e : Int32} {S : ZSt} (hS : zSh S) (hT : jTape S) : zC m_N_feed [.ref 75, .int a, .int b, .int c, .int d, .int e] S (zTwoR S m_M_feed [.int a, .int b, .int c, .int d, .int e] (fun x y S2 => y = .int x ∧ zFed S S2 ∧ jTape S2)) := by
  obtain ⟨n, hn, e1, e2, hb⟩ := hT
  refine w_N_feed hS e1 hn (fun h9 S1 a1 => ⟨_, rfl, ⟨a1.2.1 0 (by omega) (by omega), by unfold zc; rw [a1.1], by unfold zn; rw [a1.1], zSh_of a1.1 hS⟩, w_M_feed (zSh_of a1.1 hS) (n := n) ?_ hn (fun _ S2 a2 => ⟨_, rfl, rfl, ?_, ?_⟩) (fun h8 => by omega)⟩) (fun h9 => ⟨_, rfl, ⟨rfl, rfl, rfl, hS⟩, w_M_feed hS e2 hn (fun h8 => by omega) (fun _ => ⟨_, rfl, rfl, ?_, ?_⟩)⟩)
  · rw [a1.2.1 130 (by omega) (by omega)]
    exact e2
  · refine ⟨a2.1.trans a1.1, fun q h1 h2 h3 h4 => ?_, fun j hj => ?_, fun j h0 h5 => ?_⟩
    · rw [a2.2.1 q h4 h3, zI_ne _ _ h3, a1.2.1 q h2 h1]
    · rw [a2.2.1 76 (by omega) (by omega), zI_ne _ _ (by omega), a1.2.2.1 j hj]
    · rw [a2.2.2.1 j h5, zI_eq, upd_ne h0, a1.2.1 130 (by omega) (by omega)]
  · refine ⟨n + 20, h9, ?_, a2.2.2.2.1, fun j hj => ?_⟩
    · rw [a2.2.1 76 (by omega) (by omega), zI_ne _ _ (by omega), a1.2.2.2.1]
    · rw [a2.2.1 77 (by omega) (by omega), zI_ne _ _ (by omega), a1.2.2.2.2, a2.2.2.2.2, zI_ne _ _ (by omega), a1.2.1 134 (by omega) (by omega)]
      by_cases h1 : n ≤ j ∧ j < n + 20
      · rw [if_pos h1, if_pos h1]
        exact ⟨rfl, by8_r _ _⟩
      · rw [if_neg h1, if_neg h1]
        exact hb j (by omega)
  · exact ⟨rfl, fun q _ _ h3 _ => zI_ne _ _ h3, fun j hj => by rw [zI_ne _ _ (by omega)], fun j h0 _ => by rw [zI_eq, upd_ne h0]⟩
  · refine ⟨n, hn, ?_, ?_, fun j hj => ?_⟩
    · rw [zI_ne _ _ (by omega)]
      exact e1
    · rw [zI_eq, upd_ne (by omega)]
      exact e2
    · rw [zI_ne _ _ (by omega), zI_ne _ _ (by omega)]
      exact hb j hj
