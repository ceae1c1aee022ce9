/-! The tape: what stands there next, pure, and the object's side -/
def kOf (c : Nat) : Nat := if 48 ≤ c ∧ c ≤ 57 then 2 else if 97 ≤ c ∧ c ≤ 122 then 1 else 3
def skp (b : Nat → Nat) (e : Nat) : Nat → Nat → Nat
  | 0, p => p
  | f + 1, p => if b p = 32 then skp b e f (p + 1) else p
def rnE (b : Nat → Nat) (e kd : Nat) : Nat → Nat → Nat
  | 0, p => p
  | f + 1, p => if kOf (b p) = kd then rnE b e kd f (p + 1) else p
def rnV (b : Nat → Nat) (e : Nat) : Nat → Nat → Nat → Nat
  | 0, _, v => v
  | f + 1, p, v => if kOf (b p) = 2 then rnV b e f (p + 1) (if 10 * v + b p - 48 < 100000 then 10 * v + b p - 48 else 100000) else v
theorem skp_le {b : Nat → Nat} {e : Nat} : ∀ f p, p ≤ skp b e f p ∧ skp b e f p ≤ p + f
  | 0, p => ⟨Nat.le_refl _, Nat.le_refl _⟩
  | f + 1, p => by
    unfold skp
    split
    · have := skp_le (b := b) (e := e) f (p + 1)
      omega
    · omega
def jTx (S : ZSt) (b : Nat → Nat) (e : Nat) : Prop := e ≤ 400 ∧ zI S 76 2 = nI e ∧ ∀ j, j < e → b j < 256 ∧ zI S 77 j = nI (b j)
def zJ7 (S S' : ZSt) : Prop := zJ [76] S S' ∧ ∀ j, j < 3 ∨ 6 < j → zI S' 76 j = zI S 76 j
theorem zJ7.rf {S : ZSt} : zJ7 S S := ⟨zJ.rf, fun _ _ => rfl⟩
theorem zJ7.tr {S S1 S2 : ZSt} (h1 : zJ7 S S1) (h2 : zJ7 S1 S2) : zJ7 S S2 := ⟨h1.1.tr h2.1, fun j hj => (h2.2 j hj).trans (h1.2 j hj)⟩
theorem zJ7.sh {S S1 : ZSt} (h : zJ7 S S1) (hS : zSh S) : zSh S1 := h.1.sh hS
theorem zJ7.I {S : ZSt} {k : Nat} {v : Int32} (h : 3 ≤ k ∧ k ≤ 6) : zJ7 S (zsI S 76 k v) := ⟨zJ.rf.I rfl, fun j hj => zI_o (by omega)⟩
theorem jTx.J {S S' : ZSt} {b : Nat → Nat} {e : Nat} (h : jTx S b e) (j : zJ7 S S') : jTx S' b e := ⟨h.1, (j.2 2 (by omega)).trans h.2.1, fun k hk => ⟨(h.2.2 k hk).1, by rw [j.1.2 77 rfl]; exact (h.2.2 k hk).2⟩⟩
theorem w_Ta_kindOf {c : Nat} {S : ZSt} {Q : ZOut → ZSt → Prop} (hc : c < 256) (hS : zSh S) (hQ : Q (.inl (some (.int (nI (kOf c))))) S) : zC m_Ta_kindOf [.int (nI c)] S Q := by
  have k8 : (c < 48 ∨ 57 < c) → zW 1 m_Ta_kindOf 8 [some (.int (nI c))] [] S Q := fun h => by
    have e0 : ¬ (48 ≤ c ∧ c ≤ 57) := by omega
    refine b_Ta_kindOf_8 hS (pk_lt c 97 (fun h1 => ?_) (fun h1 => pk_lt 122 c (fun h2 => ?_) (fun h2 => ?_)))
    · rw [show kOf c = 3 by unfold kOf; rw [if_neg e0, if_neg (by omega)]] at hQ
      exact hQ
    · rw [show kOf c = 3 by unfold kOf; rw [if_neg e0, if_neg (by omega)]] at hQ
      exact hQ
    · rw [show kOf c = 1 by unfold kOf; rw [if_neg e0, if_pos (by omega)]] at hQ
      exact hQ
  refine b_Ta_kindOf hS (pk_lt c 48 (fun h1 => k8 (Or.inl h1)) (fun h1 => pk_lt 57 c (fun h2 => k8 (Or.inr h2)) (fun h2 => ?_)))
  rw [show kOf c = 2 by unfold kOf; rw [if_pos (by omega)]] at hQ
  exact hQ
theorem w_Ta_adv4 {b : Nat → Nat} {e : Nat} {Q : ZOut → ZSt → Prop} : ∀ (f p : Nat) {S : ZSt}, zSh S → jTx S b e → f + p = e → zI S 76 3 = nI p → (∀ S', zJ7 S S' → zI S' 76 3 = nI (skp b e f p) → zW 2 m_Ta_advance 23 [some (.ref 76)] [] S' Q) → zW 2 m_Ta_advance 4 [some (.ref 76)] [] S Q
  | 0, p, S, hS, hx, hp, h3, hQ => by
    have := hx.1
    refine b_Ta_advance_4 hS ?_
    rw [hx.2.1, h3]
    exact ⟨fun _ => hQ S zJ7.rf h3, fun h9 => absurd (nI_le (show e ≤ p by omega) (by omega)) h9⟩
  | f + 1, p, S, hS, hx, hp, h3, hQ => by
    have := hx.1
    have hb := hx.2.2 p (by omega)
    have eS : skp b e (f + 1) p = if b p = 32 then skp b e f (p + 1) else p := rfl
    rw [eS] at hQ
    refine b_Ta_advance_4 hS ?_
    rw [hx.2.1, h3, zcl9 (by omega), hb.2, nI_add]
    refine ⟨fun h9 => absurd h9 (nI_ge (by omega) (by omega)), fun _ => ⟨zin (by omega) (by omega), fun h9 => ?_, fun h9 => ?_⟩⟩
    · rw [if_neg (fun e9 => h9 (by rw [e9]))] at hQ
      exact hQ S zJ7.rf h3
    · have e9 : b p = 32 := nEq (by omega) (by omega) (Classical.not_not.mp h9)
      rw [if_pos e9] at hQ
      have j : zJ7 S (zsI S 76 3 (nI (p + 1))) := zJ7.I (by omega)
      exact w_Ta_adv4 f (p + 1) (j.sh hS) (hx.J j) (by omega) zI_s (fun S' j' => hQ S' (j.tr j'))
theorem w_Ta_adv56 {b : Nat → Nat} {e kd : Nat} {Q : ZOut → ZSt → Prop} (hkd : kd ≤ 2) : ∀ (f p v : Nat) {S : ZSt}, zSh S → jTx S b e → f + p = e → v ≤ 100000 → zI S 76 4 = nI p → zI S 76 5 = nI kd → zI S 76 6 = nI v → (∀ S', zJ7 S S' → zI S' 76 3 = zI S 76 3 → zI S' 76 4 = nI (rnE b e kd f p) → zI S' 76 5 = nI kd → zI S' 76 6 = nI (if kd = 2 then rnV b e f p v else v) → Q (.inl none) S') → zW 2 m_Ta_advance 56 [some (.ref 76)] [] S Q
  | 0, p, v, S, hS, hx, hp, hv, h4, h5, h6, hQ => by
    have := hx.1
    refine b_Ta_advance_56 hS ?_
    rw [hx.2.1, h4]
    refine ⟨fun _ => hQ S zJ7.rf rfl h4 h5 ?_, fun h9 => absurd (nI_le (show e ≤ p by omega) (by omega)) h9⟩
    rw [h6]
    split <;> rfl
  | f + 1, p, v, S, hS, hx, hp, hv, h4, h5, h6, hQ => by
    have := hx.1
    have hb := hx.2.2 p (by omega)
    have eE : rnE b e kd (f + 1) p = if kOf (b p) = kd then rnE b e kd f (p + 1) else p := rfl
    have eV : rnV b e (f + 1) p v = if kOf (b p) = 2 then rnV b e f (p + 1) (if 10 * v + b p - 48 < 100000 then 10 * v + b p - 48 else 100000) else v := rfl
    have hk3 : kOf (b p) ≤ 3 := by
      unfold kOf
      split
      · omega
      · split <;> omega
    rw [eE, eV] at hQ
    refine b_Ta_advance_56 hS ?_
    rw [hx.2.1, h4, zcl9 (by omega), hb.2]
    refine ⟨fun h9 => absurd h9 (nI_ge (by omega) (by omega)), fun _ => ⟨zin (by omega) (by omega), w_Ta_kindOf hb.1 hS (b_Ta_advance_67 hS ?_)⟩⟩
    rw [h4, h5, h6, zcl9 (by omega), hb.2, nI_add]
    by_cases c : kOf (b p) = kd
    · rw [if_pos c] at hQ
      refine ⟨fun h9 => absurd (by rw [c]) h9, fun _ => ⟨fun h9 => ?_, fun h9 => ?_⟩⟩
      · have c2 : kd ≠ 2 := fun e9 => h9 (by rw [e9])
        have j : zJ7 S (zsI S 76 4 (nI (p + 1))) := zJ7.I (by omega)
        rw [if_neg c2] at hQ
        refine w_Ta_adv56 hkd f (p + 1) v (j.sh hS) (hx.J j) (by omega) hv zI_s ((zI_o (by omega)).trans h5) ((zI_o (by omega)).trans h6) (fun S' j' a3 a4 a5 a6 => hQ S' (j.tr j') (a3.trans (zI_o (by omega))) a4 a5 ?_)
        rw [if_neg c2] at a6
        exact a6
      · have c2 : kd = 2 := nEq (by omega) (by omega) (Classical.not_not.mp h9)
        have d2 : kOf (b p) = 2 := c.trans c2
        have dg : 48 ≤ b p ∧ b p ≤ 57 := by
          unfold kOf at d2
          split at d2
          · assumption
          · split at d2 <;> omega
        rw [pk_mul, nI_add, pk_sub (by omega)]
        rw [if_pos c2, if_pos d2] at hQ
        have hm : (if nI (10 * v + b p - 48) < nI 100000 then nI (10 * v + b p - 48) else nI 100000) = nI (if 10 * v + b p - 48 < 100000 then 10 * v + b p - 48 else 100000) := by
          by_cases c9 : 10 * v + b p - 48 < 100000
          · rw [if_pos c9, if_pos (nI_lt c9 (by omega))]
          · rw [if_neg c9, if_neg (nI_nlt (by omega) (by omega))]
        rw [hm]
        have j : zJ7 S (zsI (zsI S 76 6 (nI (if 10 * v + b p - 48 < 100000 then 10 * v + b p - 48 else 100000))) 76 4 (nI (p + 1))) := (zJ7.I (by omega)).tr (zJ7.I (by omega))
        refine ⟨zin (by omega) (by omega), w_Ta_adv56 hkd f (p + 1) (if 10 * v + b p - 48 < 100000 then 10 * v + b p - 48 else 100000) (j.sh hS) (hx.J j) (by omega) (by split <;> omega) zI_s ?_ ?_ (fun S' j' a3 a4 a5 a6 => hQ S' (j.tr j') ?_ a4 a5 ?_)⟩
        · rw [zI_o (by omega), zI_o (by omega)]
          exact h5
        · rw [zI_o (by omega), zI_s]
        · rw [a3, zI_o (by omega), zI_o (by omega)]
        · rw [if_pos c2] at a6
          exact a6
    · rw [if_neg c] at hQ
      refine ⟨fun _ => hQ S zJ7.rf rfl h4 h5 ?_, fun h9 => absurd (fun e9 => c (nEq (by omega) (by omega) e9)) h9⟩
      rw [h6]
      by_cases c2 : kd = 2
      · rw [if_pos c2, if_neg (fun e9 => c (e9.trans c2.symm))]
      · rw [if_neg c2]
/-- what advance tells of the text from p on: start, kind, end, number -/
def tkS (b : Nat → Nat) (e p : Nat) : Nat := skp b e (e - p) p
def tkK (b : Nat → Nat) (e p : Nat) : Nat := if tkS b e p < e then kOf (b (tkS b e p)) else 0
def tkE (b : Nat → Nat) (e p : Nat) : Nat := if tkK b e p = 3 then tkS b e p + 1 else rnE b e (tkK b e p) (e - tkS b e p) (tkS b e p)
def tkV (b : Nat → Nat) (e p : Nat) : Nat := if tkK b e p = 2 then rnV b e (e - tkS b e p) (tkS b e p) 0 else 0
def jTo (S : ZSt) (b : Nat → Nat) (e p : Nat) : Prop := zI S 76 3 = nI (tkS b e p) ∧ zI S 76 4 = nI (tkE b e p) ∧ zI S 76 5 = nI (tkK b e p) ∧ zI S 76 6 = nI (tkV b e p)
