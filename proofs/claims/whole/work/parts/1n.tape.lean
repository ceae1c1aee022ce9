/-! A text is begun: the object's side -/
theorem w_Ta_begin {b : Nat → Nat} {n : Nat} {S : ZSt} {Q : ZOut → ZSt → Prop} (hS : zSh S) (hn : n ≤ 400) (hb : ∀ j, j < n → b j < 256 ∧ zI S 77 j = nI (b j)) (hQ : ∀ S', zJ [76] S S' → zI S' 76 1 = nI 0 → zI S' 76 7 = nI 0 → zI S' 76 8 = - nI 1 → jTx S' b n → jTo S' b n 0 → Q (.inl none) S') : zC m_Ta_begin [.ref 76, .int (nI n)] S Q := by
  have e1 : (if nI 400 < nI n then nI 400 else nI n) = nI n := if_neg (nI_nlt hn (by omega))
  have e2 : (if nI 0 < nI n then nI n else nI 0) = nI n := by
    by_cases c : 0 < n
    · rw [if_pos (nI_lt c (by omega))]
    · rw [show n = 0 by omega]
      split <;> rfl
  refine b_Ta_begin hS ?_
  rw [e1, e2]
  have j : zJ [76] S (zsI (zsI (zsI (zsI (zsI S 76 2 (nI n)) 76 1 (nI 0)) 76 4 (nI 0)) 76 7 (nI 0)) 76 8 (- nI 1)) := ((((zJ.rf.I rfl).I rfl).I rfl).I rfl).I rfl
  have x : jTx (zsI (zsI (zsI (zsI (zsI S 76 2 (nI n)) 76 1 (nI 0)) 76 4 (nI 0)) 76 7 (nI 0)) 76 8 (- nI 1)) b n := ⟨hn, by rw [zI_o (by omega), zI_o (by omega), zI_o (by omega), zI_o (by omega), zI_s], fun k hk => by rw [j.2 77 rfl]; exact hb k hk⟩
  refine w_Ta_advance (j.sh hS) x (Nat.zero_le _) (by rw [zI_o (by omega), zI_o (by omega), zI_s]) (fun S' j' t' => b_Ta_begin_23 (j'.sh (j.sh hS)) (hQ S' (j.tr j'.1) ?_ ?_ ?_ (x.J j') t'))
  · rw [j'.2 1 (by omega), zI_o (by omega), zI_o (by omega), zI_o (by omega), zI_s]
  · rw [j'.2 7 (by omega), zI_o (by omega), zI_s]
  · rw [j'.2 8 (by omega), zI_s]
