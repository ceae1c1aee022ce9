/-! The reference's words -/
theorem tkW_lt {b : Nat → Nat} {e p : Nat} : tkW b e p < 2 ^ 30 := by
  rw [tkW_eq]
  split
  · rename_i h6
    have hL : ∀ j, j < rnE b e 1 (e - tkS b e p) (tkS b e p) - tkS b e p → isL (b (tkS b e p + j)) := fun j hj => kOf_1.mp (rnE_k (e := e) (e - tkS b e p) (tkS b e p) (tkS b e p + j) (by omega) (by omega))
    refine Nat.lt_of_lt_of_le (pkS_lt _ _ hL) ?_
    exact Nat.le_trans (Nat.pow_le_pow_right (by omega) h6) (by decide)
  · decide
theorem sV_lt : (List.range 25).all (fun k => Nat.blt (sV (25 + 2 * k)) 2000000000) = true := by decide +kernel
theorem sV_l {r : Nat} (h : (List.range 25).any (fun k => Nat.beq r (25 + 2 * k)) = true) : sV r < 2 ^ 31 := by
  obtain ⟨k, hk, e⟩ := List.any_eq_true.mp h
  have e := Nat.eq_of_beq_eq_true e
  have := List.all_eq_true.mp sV_lt k hk
  rw [← e] at this
  have : sV r < 2000000000 := Nat.le_of_ble_eq_true this
  omega
theorem wix_c {c : Nat} {r : List Nat} {w k : Nat} : wix (c :: r) w k = if w = c then nI k else wix r w (k + 1) := rfl
theorem sW21_e : sW 21 = [sV 25, sV 27, sV 29, sV 31, sV 33, sV 35] := by decide +kernel
theorem sW23_e : sW 23 = [sV 37, sV 39, sV 41, sV 43, sV 45, sV 47, sV 49, sV 51, sV 53, sV 55, sV 57, sV 59] := by decide +kernel
theorem w_M_valleyWord {w : Nat} {S : ZSt} {Q : ZOut → ZSt → Prop} (hw : w < 2 ^ 30) (hS : zSh S) (hC : zCst S) (hQ : Q (.inl (some (.int (wix (sW 21) w 0)))) S) : zC m_M_valleyWord [.int (nI w)] S Q := by
  rw [sW21_e] at hQ
  refine b_M_valleyWord hS (w_M_of rfl hS hC (b_M_valleyWord_3 hS ⟨fun h0 => ?_, fun h0 => ?_⟩))
  · rw [wix_c, if_neg (fun z => h0 (by rw [z]))] at hQ
    refine w_M_of rfl hS hC (b_M_valleyWord_9 hS ⟨fun h1 => ?_, fun h1 => ?_⟩)
    · rw [wix_c, if_neg (fun z => h1 (by rw [z]))] at hQ
      refine w_M_of rfl hS hC (b_M_valleyWord_15 hS ⟨fun h2 => ?_, fun h2 => ?_⟩)
      · rw [wix_c, if_neg (fun z => h2 (by rw [z]))] at hQ
        refine w_M_of rfl hS hC (b_M_valleyWord_21 hS ⟨fun h3 => ?_, fun h3 => ?_⟩)
        · rw [wix_c, if_neg (fun z => h3 (by rw [z]))] at hQ
          refine w_M_of rfl hS hC (b_M_valleyWord_27 hS ⟨fun h4 => ?_, fun h4 => ?_⟩)
          · rw [wix_c, if_neg (fun z => h4 (by rw [z]))] at hQ
            refine w_M_of rfl hS hC (b_M_valleyWord_33 hS ⟨fun h5 => ?_, fun h5 => ?_⟩)
            · rw [wix_c, if_neg (fun z => h5 (by rw [z]))] at hQ
              exact hQ
            · rw [wix_c, if_pos ((nI_eq (by omega) (sV_l (r := 35) rfl)).mp (Classical.not_not.mp h5))] at hQ
              exact hQ
          · rw [wix_c, if_pos ((nI_eq (by omega) (sV_l (r := 33) rfl)).mp (Classical.not_not.mp h4))] at hQ
            exact hQ
        · rw [wix_c, if_pos ((nI_eq (by omega) (sV_l (r := 31) rfl)).mp (Classical.not_not.mp h3))] at hQ
          exact hQ
      · rw [wix_c, if_pos ((nI_eq (by omega) (sV_l (r := 29) rfl)).mp (Classical.not_not.mp h2))] at hQ
        exact hQ
    · rw [wix_c, if_pos ((nI_eq (by omega) (sV_l (r := 27) rfl)).mp (Classical.not_not.mp h1))] at hQ
      exact hQ
  · rw [wix_c, if_pos ((nI_eq (by omega) (sV_l (r := 25) rfl)).mp (Classical.not_not.mp h0))] at hQ
    exact hQ
theorem w_M_actWord {w : Nat} {S : ZSt} {Q : ZOut → ZSt → Prop} (hw : w < 2 ^ 30) (hS : zSh S) (hC : zCst S) (hQ : Q (.inl (some (.int (wix (sW 23) w 0)))) S) : zC m_M_actWord [.int (nI w)] S Q := by
  rw [sW23_e] at hQ
  refine b_M_actWord hS (w_M_of rfl hS hC (b_M_actWord_3 hS ⟨fun h0 => ?_, fun h0 => ?_⟩))
  · rw [wix_c, if_neg (fun z => h0 (by rw [z]))] at hQ
    refine w_M_of rfl hS hC (b_M_actWord_9 hS ⟨fun h1 => ?_, fun h1 => ?_⟩)
    · rw [wix_c, if_neg (fun z => h1 (by rw [z]))] at hQ
      refine w_M_of rfl hS hC (b_M_actWord_15 hS ⟨fun h2 => ?_, fun h2 => ?_⟩)
      · rw [wix_c, if_neg (fun z => h2 (by rw [z]))] at hQ
        refine w_M_of rfl hS hC (b_M_actWord_21 hS ⟨fun h3 => ?_, fun h3 => ?_⟩)
        · rw [wix_c, if_neg (fun z => h3 (by rw [z]))] at hQ
          refine w_M_of rfl hS hC (b_M_actWord_27 hS ⟨fun h4 => ?_, fun h4 => ?_⟩)
          · rw [wix_c, if_neg (fun z => h4 (by rw [z]))] at hQ
            refine w_M_of rfl hS hC (b_M_actWord_33 hS ⟨fun h5 => ?_, fun h5 => ?_⟩)
            · rw [wix_c, if_neg (fun z => h5 (by rw [z]))] at hQ
              refine w_M_of rfl hS hC (b_M_actWord_39 hS ⟨fun h6 => ?_, fun h6 => ?_⟩)
              · rw [wix_c, if_neg (fun z => h6 (by rw [z]))] at hQ
                refine w_M_of rfl hS hC (b_M_actWord_45 hS ⟨fun h7 => ?_, fun h7 => ?_⟩)
                · rw [wix_c, if_neg (fun z => h7 (by rw [z]))] at hQ
                  refine w_M_of rfl hS hC (b_M_actWord_51 hS ⟨fun h8 => ?_, fun h8 => ?_⟩)
                  · rw [wix_c, if_neg (fun z => h8 (by rw [z]))] at hQ
                    refine w_M_of rfl hS hC (b_M_actWord_57 hS ⟨fun h9 => ?_, fun h9 => ?_⟩)
                    · rw [wix_c, if_neg (fun z => h9 (by rw [z]))] at hQ
                      refine w_M_of rfl hS hC (b_M_actWord_63 hS ⟨fun h10 => ?_, fun h10 => ?_⟩)
                      · rw [wix_c, if_neg (fun z => h10 (by rw [z]))] at hQ
                        refine w_M_of rfl hS hC (b_M_actWord_69 hS ⟨fun h11 => ?_, fun h11 => ?_⟩)
                        · rw [wix_c, if_neg (fun z => h11 (by rw [z]))] at hQ
                          exact hQ
                        · rw [wix_c, if_pos ((nI_eq (by omega) (sV_l (r := 59) rfl)).mp (Classical.not_not.mp h11))] at hQ
                          exact hQ
                      · rw [wix_c, if_pos ((nI_eq (by omega) (sV_l (r := 57) rfl)).mp (Classical.not_not.mp h10))] at hQ
                        exact hQ
                    · rw [wix_c, if_pos ((nI_eq (by omega) (sV_l (r := 55) rfl)).mp (Classical.not_not.mp h9))] at hQ
                      exact hQ
                  · rw [wix_c, if_pos ((nI_eq (by omega) (sV_l (r := 53) rfl)).mp (Classical.not_not.mp h8))] at hQ
                    exact hQ
                · rw [wix_c, if_pos ((nI_eq (by omega) (sV_l (r := 51) rfl)).mp (Classical.not_not.mp h7))] at hQ
                  exact hQ
              · rw [wix_c, if_pos ((nI_eq (by omega) (sV_l (r := 49) rfl)).mp (Classical.not_not.mp h6))] at hQ
                exact hQ
            · rw [wix_c, if_pos ((nI_eq (by omega) (sV_l (r := 47) rfl)).mp (Classical.not_not.mp h5))] at hQ
              exact hQ
          · rw [wix_c, if_pos ((nI_eq (by omega) (sV_l (r := 45) rfl)).mp (Classical.not_not.mp h4))] at hQ
            exact hQ
        · rw [wix_c, if_pos ((nI_eq (by omega) (sV_l (r := 43) rfl)).mp (Classical.not_not.mp h3))] at hQ
          exact hQ
      · rw [wix_c, if_pos ((nI_eq (by omega) (sV_l (r := 41) rfl)).mp (Classical.not_not.mp h2))] at hQ
        exact hQ
    · rw [wix_c, if_pos ((nI_eq (by omega) (sV_l (r := 39) rfl)).mp (Classical.not_not.mp h1))] at hQ
      exact hQ
  · rw [wix_c, if_pos ((nI_eq (by omega) (sV_l (r := 37) rfl)).mp (Classical.not_not.mp h0))] at hQ
    exact hQ
