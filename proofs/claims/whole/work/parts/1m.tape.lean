/-! A number is taken: the object's side -/
theorem rnV_le {b : Nat → Nat} {e : Nat} : ∀ f p v, v ≤ 100000 → rnV b e f p v ≤ 100000
  | 0, _, _, h => h
  | f + 1, p, v, h => by
    unfold rnV
    split
    · exact rnV_le f (p + 1) _ (by split <;> omega)
    · exact h
theorem tkV_le {b : Nat → Nat} {e p : Nat} : tkV b e p ≤ 100000 := by
  unfold tkV
  split
  · exact rnV_le _ _ _ (by omega)
  · omega
theorem tkK_le {b : Nat → Nat} {e p : Nat} : tkK b e p ≤ 3 := by
  unfold tkK
  split
  · exact kOf_le.2
  · omega
theorem w_Ta_takeNumber {b : Nat → Nat} {e p lo hi : Nat} {x : Int32} {S : ZSt} {Q : ZOut → ZSt → Prop} (hM : (Nat.blt lo 2147483648 && Nat.blt hi 2147483648) = true) (hS : zSh S) (hx : jTx S b e) (hp : p ≤ e) (ht : jTo S b e p) (ok : tkK b e p = 2 → lo ≤ tkV b e p → tkV b e p ≤ hi → ¬ nI (tkV b e p) = x → ∀ S', zJ7 S S' → jTo S' b e (tkE b e p) → Q (.inl (some (.int (nI (tkV b e p))))) S') (no1 : tkK b e p ≠ 2 → Q (.inl (some (.int (- nI 1)))) (zsI (zsI S 76 7 (nI 1)) 76 8 (nI (tkS b e p)))) (no2 : tkK b e p = 2 → (¬ (lo ≤ tkV b e p ∧ tkV b e p ≤ hi) ∨ nI (tkV b e p) = x) → Q (.inl (some (.int (- nI 1)))) (zsI (zsI S 76 7 (nI 2)) 76 8 (nI (tkS b e p)))) : zC m_Ta_takeNumber [.ref 76, .int (nI lo), .int (nI hi), .int x] S Q := by
  have kl := tkK_le (b := b) (e := e) (p := p)
  have vl := tkV_le (b := b) (e := e) (p := p)
  have h1 : lo < 2147483648 := Nat.le_of_ble_eq_true (zand hM).1
  have h2 : hi < 2147483648 := Nat.le_of_ble_eq_true (zand hM).2
  refine b_Ta_takeNumber hS ⟨fun h9 => ?_, fun h9 => w_Ta_refuse hS (b_Ta_takeNumber_7 hS ?_)⟩
  · rw [ht.2.2.1] at h9
    have k2 : tkK b e p = 2 := nEq (by omega) (by omega) h9
    rw [ht.2.2.2]
    refine w_N_isNotR hM hS (fun ⟨k, a1, a2, a3⟩ => b_Ta_takeNumber_15 hS ⟨fun h8 => absurd rfl h8, fun _ => ⟨fun h8 => ?_, fun h8 => w_Ta_refuse hS (b_Ta_takeNumber_23 hS ?_)⟩⟩) (fun h8 => b_Ta_takeNumber_15 hS ⟨fun _ => w_Ta_refuse hS (b_Ta_takeNumber_23 hS ?_), fun h7 => absurd (by decide) h7⟩)
    · rw [ht.2.2.2] at h8 ⊢
      have ev : tkV b e p = k := (nI_eq (by omega) (by omega)).mp a3
      refine w_Ta_advance hS hx (tkE_le hp) ht.2.1 (fun S' j' t' => b_Ta_takeNumber_31 (j'.sh hS) (ok k2 (by omega) (by omega) h8 S' j' t'))
    · rw [ht.2.2.2] at h8
      rw [ht.1]
      exact no2 k2 (Or.inr (Classical.not_not.mp h8))
    · rw [ht.1]
      exact no2 k2 (Or.inl (fun z => h8 ⟨_, z.1, z.2, rfl⟩))
  · rw [ht.1]
    rw [ht.2.2.1] at h9
    exact no1 (fun e9 => h9 (by rw [e9]))
