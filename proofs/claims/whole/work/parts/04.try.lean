theorem b_JM_max {x y : Int32} {S : ZSt} {Q : ZOut → ZSt → Prop} (h : (x < y → Q (.inl (some (.int y))) S) ∧ (¬ x < y → Q (.inl (some (.int x))) S)) : zC m_JM_max [.int x, .int y] S Q := zB_W 20 (cs := []) h
theorem b_N_isNot {x l u : Int32} {S : ZSt} {Q : ZOut → ZSt → Prop} (h : (x < l → narrow .boolean (.int (nI 1)) = .int (nI 1) ∧ Q (.inl (some (.int (nI 1)))) S) ∧ (¬ x < l → (x ≤ u → narrow .boolean (.int (nI 0)) = .int (nI 0) ∧ Q (.inl (some (.int (nI 0)))) S) ∧ (¬ x ≤ u → narrow .boolean (.int (nI 1)) = .int (nI 1) ∧ Q (.inl (some (.int (nI 1)))) S))) : zC m_N_isNot [.int x, .int l, .int u] S Q := zB_W 20 (cs := []) h
theorem b_M_may {x : Nat} {g c k : Int32} {S : ZSt} {Q : ZOut → ZSt → Prop} (h : False) : zC m_M_may [.ref x, .int g, .int c, .int k] S Q := by
  refine zB_W 40 (cs := []) ?_
  show _
  simp only [zB]
  exact h
