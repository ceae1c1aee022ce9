/-! The tape's own methods: the object's side -/
theorem tkS_le {b : Nat → Nat} {e p : Nat} (h : p ≤ e) : p ≤ tkS b e p ∧ tkS b e p ≤ e := by
  have := skp_le (b := b) (e := e) (e - p) p
  unfold tkS
  omega
theorem kOf_le {c : Nat} : 1 ≤ kOf c ∧ kOf c ≤ 3 := by
  unfold kOf
  split
  · omega
  · split <;> omega
theorem w_Ta_advance {b : Nat → Nat} {e p : Nat} {S : ZSt} {Q : ZOut → ZSt → Prop} (hS : zSh S) (hx : jTx S b e) (hp : p ≤ e) (h4 : zI S 76 4 = nI p) (hQ : ∀ S', zJ7 S S' → jTo S' b e p → Q (.inl none) S') : zC m_Ta_advance [.ref 76] S Q := by
  have he := hx.1
  have j0 : zJ7 S (zsI S 76 3 (zI S 76 4)) := zJ7.I (by omega)
  refine b_Ta_advance hS (w_Ta_adv4 (e - p) p (j0.sh hS) (hx.J j0) (by omega) (zI_s.trans h4) (fun S1 j1 a3 => b_Ta_advance_23 (j1.sh (j0.sh hS)) ?_))
  have jj := j0.tr j1
  have hS1 := jj.sh hS
  have hx1 := hx.J jj
  have a3 : zI S1 76 3 = nI (tkS b e p) := a3
  obtain ⟨s1, s2⟩ := tkS_le (b := b) hp
  rw [hx1.2.1, a3]
  by_cases c : tkS b e p < e
  · have hk : tkK b e p = kOf (b (tkS b e p)) := by unfold tkK; rw [if_pos c]
    have hb := hx1.2.2 _ c
    have kl := kOf_le (c := b (tkS b e p))
    rw [zcl9 (by omega), hb.2]
    refine ⟨fun h9 => absurd h9 (nI_ge c (by omega)), fun _ => ⟨zin (by omega) (by omega), ?_⟩⟩
    have j2 : zJ7 S1 (zsI (zsI S1 76 4 (nI (tkS b e p))) 76 6 (nI 0)) := (zJ7.I (by omega)).tr (zJ7.I (by omega))
    have hS2 := j2.sh hS1
    refine w_Ta_kindOf hb.1 hS2 (b_Ta_advance_42 hS2 ⟨fun h9 => ?_, fun h9 => ?_⟩)
    · have n3 : kOf (b (tkS b e p)) ≠ 3 := fun e9 => h9 (by rw [e9])
      have j3 : zJ7 (zsI (zsI S1 76 4 (nI (tkS b e p))) 76 6 (nI 0)) (zsI (zsI (zsI S1 76 4 (nI (tkS b e p))) 76 6 (nI 0)) 76 5 (nI (kOf (b (tkS b e p))))) := zJ7.I (by omega)
      have jt := j2.tr j3
      refine w_Ta_adv56 (b := b) (e := e) (kd := kOf (b (tkS b e p))) (by omega) (e - tkS b e p) (tkS b e p) 0 (jt.sh hS1) (hx1.J jt) (by omega) (by omega) ?_ zI_s ?_ (fun S' j' y3 y4 y5 y6 => hQ S' (jj.tr (jt.tr j')) ⟨?_, ?_, ?_, ?_⟩)
      · rw [zI_o (by omega), zI_o (by omega), zI_s]
      · rw [zI_o (by omega), zI_s]
      · rw [y3, zI_o (by omega), zI_o (by omega), zI_o (by omega)]
        exact a3
      · unfold tkE
        rw [hk, if_neg n3]
        exact y4
      · rw [hk]
        exact y5
      · unfold tkV
        rw [hk]
        exact y6
    · have e3 : kOf (b (tkS b e p)) = 3 := nEq (by omega) (by omega) (Classical.not_not.mp h9)
      have e4 : zI (zsI (zsI S1 76 4 (nI (tkS b e p))) 76 6 (nI 0)) 76 4 = nI (tkS b e p) := by rw [zI_o (by omega), zI_s]
      rw [e4, nI_add]
      have j3 : zJ7 (zsI (zsI S1 76 4 (nI (tkS b e p))) 76 6 (nI 0)) (zsI (zsI (zsI (zsI S1 76 4 (nI (tkS b e p))) 76 6 (nI 0)) 76 5 (nI (kOf (b (tkS b e p))))) 76 4 (nI (tkS b e p + 1))) := (zJ7.I (by omega)).tr (zJ7.I (by omega))
      refine hQ _ (jj.tr (j2.tr j3)) ⟨?_, ?_, ?_, ?_⟩
      · rw [zI_o (by omega), zI_o (by omega), zI_o (by omega), zI_o (by omega)]
        exact a3
      · rw [zI_s]
        unfold tkE
        rw [hk, if_pos e3]
      · rw [zI_o (by omega), zI_s, hk]
      · rw [zI_o (by omega), zI_o (by omega), zI_s]
        unfold tkV
        rw [hk, if_neg (by omega)]
  · have hk : tkK b e p = 0 := by unfold tkK; rw [if_neg c]
    have es : tkS b e p = e := by omega
    refine ⟨fun _ => ⟨fun _ => ?_, fun h9 => absurd (by decide) h9⟩, fun h9 => absurd (nI_le (show e ≤ tkS b e p by omega) (by omega)) h9⟩
    have j3 : zJ7 S1 (zsI (zsI (zsI S1 76 4 (nI (tkS b e p))) 76 6 (nI 0)) 76 5 (nI 0)) := ((zJ7.I (by omega)).tr (zJ7.I (by omega))).tr (zJ7.I (by omega))
    refine w_Ta_adv56 (b := b) (e := e) (kd := 0) (by omega) (e - tkS b e p) (tkS b e p) 0 (j3.sh hS1) (hx1.J j3) (by omega) (by omega) ?_ zI_s ?_ (fun S' j' y3 y4 y5 y6 => hQ S' (jj.tr (j3.tr j')) ⟨?_, ?_, ?_, ?_⟩)
    · rw [zI_o (by omega), zI_o (by omega), zI_s]
    · rw [zI_o (by omega), zI_s]
    · rw [y3, zI_o (by omega), zI_o (by omega), zI_o (by omega)]
      exact a3
    · unfold tkE
      rw [hk, if_neg (by omega)]
      exact y4
    · rw [hk]
      exact y5
    · unfold tkV
      rw [hk]
      exact y6
theorem w_Ta_isSign {b : Nat → Nat} {e p c : Nat} {S : ZSt} {Q : ZOut → ZSt → Prop} (hc : c < 256) (hS : zSh S) (hx : jTx S b e) (hp : p ≤ e) (ht : jTo S b e p) (ok : tkK b e p = 3 → b (tkS b e p) = c → Q (.inl (some (.int (nI 1)))) S) (no : ¬ (tkK b e p = 3 ∧ b (tkS b e p) = c) → Q (.inl (some (.int (nI 0)))) S) : zC m_Ta_isSign [.ref 76, .int (nI c)] S Q := by
  have he := hx.1
  obtain ⟨s1, s2⟩ := tkS_le (b := b) hp
  have kl : tkK b e p ≤ 3 := by
    unfold tkK
    split
    · exact kOf_le.2
    · omega
  refine b_Ta_isSign hS ?_
  rw [hx.2.1, ht.1, ht.2.2.1]
  refine ⟨fun h9 => ⟨rfl, no (fun z => h9 (by rw [z.1]))⟩, fun h9 => ?_⟩
  have k3 : tkK b e p = 3 := nEq (by omega) (by omega) (Classical.not_not.mp h9)
  have lt : tkS b e p < e := Classical.not_not.mp (fun c9 => by
    unfold tkK at k3
    rw [if_neg c9] at k3
    omega)
  have hb := hx.2.2 _ lt
  rw [zcl9 (by omega), hb.2]
  exact ⟨fun h8 => absurd h8 (nI_ge lt (by omega)), fun _ => ⟨zin (by omega) (by omega), fun h8 => ⟨rfl, no (fun z => h8 (by rw [z.2]))⟩, fun h8 => ⟨rfl, ok k3 (nEq (by omega) (by omega) (Classical.not_not.mp h8))⟩⟩⟩
theorem w_Ta_refuse {k : Nat} {S : ZSt} {Q : ZOut → ZSt → Prop} (hS : zSh S) (hQ : Q (.inl (some (.int (nI 0)))) (zsI (zsI S 76 7 (nI k)) 76 8 (zI S 76 3))) : zC m_Ta_refuse [.ref 76, .int (nI k)] S Q := b_Ta_refuse hS ⟨rfl, hQ⟩
theorem tkE_le {b : Nat → Nat} {e p : Nat} (h : p ≤ e) : tkE b e p ≤ e := by
  obtain ⟨s1, s2⟩ := tkS_le (b := b) h
  have rl : ∀ kd f p, rnE b e kd f p ≤ p + f := by
    intro kd f
    induction f with
    | zero => intro p; exact Nat.le_refl _
    | succ f ih =>
      intro p
      show (if kOf (b p) = kd then rnE b e kd f (p + 1) else p) ≤ _
      split
      · have := ih (p + 1)
        omega
      · omega
  unfold tkE
  split
  · rename_i k3
    have lt : tkS b e p < e := Classical.not_not.mp (fun c9 => by
      unfold tkK at k3
      rw [if_neg c9] at k3
      omega)
    omega
  · have := rl (tkK b e p) (e - tkS b e p) (tkS b e p)
    omega
/-- a sign is taken -/
theorem w_Ta_takeSign {b : Nat → Nat} {e p c : Nat} {S : ZSt} {Q : ZOut → ZSt → Prop} (hc : c < 256) (hS : zSh S) (hx : jTx S b e) (hp : p ≤ e) (ht : jTo S b e p) (ok : tkK b e p = 3 → b (tkS b e p) = c → ∀ S', zJ7 S S' → jTo S' b e (tkE b e p) → Q (.inl (some (.int (nI 1)))) S') (no : ¬ (tkK b e p = 3 ∧ b (tkS b e p) = c) → Q (.inl (some (.int (nI 0)))) (zsI (zsI S 76 7 (nI 1)) 76 8 (nI (tkS b e p)))) : zC m_Ta_takeSign [.ref 76, .int (nI c)] S Q := by
  refine b_Ta_takeSign hS (w_Ta_isSign hc hS hx hp ht (fun k3 kc => b_Ta_takeSign_3 hS ⟨fun _ => w_Ta_advance hS hx (tkE_le hp) ht.2.1 (fun S' j' t' => b_Ta_takeSign_10 (j'.sh hS) ⟨rfl, ok k3 kc S' j' t'⟩), fun h9 => absurd (by decide) h9⟩) (fun h9 => b_Ta_takeSign_3 hS ⟨fun h8 => absurd rfl h8, fun _ => w_Ta_refuse hS (b_Ta_takeSign_7 hS ⟨rfl, ?_⟩)⟩))
  rw [ht.1]
  exact no h9
