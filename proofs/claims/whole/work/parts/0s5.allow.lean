/-! Which ways are allowed -/
def Alw (x0 x1 x3 x4 x5 n k a b : Nat) : Prop := (k ≤ 4 → a < x0) ∧ (2 ≤ k → k ≤ 3 → b < x0) ∧ (k = 2 → x5 = 1) ∧ (k = 3 → x4 = 1) ∧ (k = 4 ∨ k = 7 ∨ k = 8 → b ≤ n) ∧ (5 ≤ k → k ≤ 8 → a < x1) ∧ (k = 9 → a ≤ n) ∧ (k = 10 → a ≤ x3)
theorem w_Wa_allows {o ra rb rc n t x0 x1 x3 x4 x5 : Nat} {kd fa fb : Nat → Nat} {S : ZSt} {Q : ZOut → ZSt → Prop} (hS : zSh S) (hW : zWy n kd fa fb) (hw : jWO S o ra rb rc n kd fa fb) (ht : t < n) (v0 : zI S 93 0 = nI x0) (v1 : zI S 93 1 = nI x1) (v3 : zI S 93 3 = nI x3) (v4 : zI S 93 4 = nI x4) (v5 : zI S 93 5 = nI x5) (b0 : x0 ≤ 12) (b1 : x1 ≤ 24) (b3 : x3 ≤ 3) (b4 : x4 ≤ 1) (b5 : x5 ≤ 1)
    (ht1 : Alw x0 x1 x3 x4 x5 n (kd t) (fa t) (fb t) → Q (.inl (some (.int (nI 1)))) S) (hf1 : ¬ Alw x0 x1 x3 x4 x5 n (kd t) (fa t) (fb t) → Q (.inl (some (.int (nI 0)))) S) : zC m_Wa_allows [.ref o, .int (nI t), .ref 93] S Q := by
  obtain ⟨hn0, hn, hk⟩ := hW
  obtain ⟨hk1, hk2, hk3, hk4, hk5, hk6, hk7⟩ := hk t ht
  obtain ⟨w1, w2, ⟨r1, r2, r3⟩, ⟨⟨c1, n1⟩, ⟨c2, n2⟩, ⟨c3, n3⟩⟩, w5⟩ := hw
  obtain ⟨k1, k2, k3⟩ := w5 t ht
  refine b_Wa_allows hS ⟨zinl rfl, zinl rfl, w1, rb, r2, c2, by rw [n2]; exact zin (by omega) (by omega), w1, rc, r3, c3, by rw [n3]; exact zin (by omega) (by omega), w1, ra, r1, c1, by rw [n1]; exact zin (by omega) (by omega), ?_⟩
  rw [zcl9 (by omega), k1, k2, k3, v0, v1, v3, v4, v5, w2]
  refine ⟨⟨fun e => ?_, fun e => ?_, fun e => ?_, fun e => ?_, fun e => ?_, fun e => ?_, fun e => ?_, fun e => ?_, fun e => ?_, fun e => ?_, fun e => ?_, trivial⟩, fun e => ?_⟩
  · have k0 : kd t = 0 := nEq (by omega) (by omega) e
    have ha := hk2 (by omega)
    rw [eA_n (by omega), nI_leI (by omega) (by omega)]
    exact ⟨fun _ => ⟨rfl, hf1 (by unfold Alw; omega)⟩, fun _ => ⟨rfl, ht1 (by unfold Alw; omega)⟩⟩
  · have k0 : kd t = 1 := nEq (by omega) (by omega) e
    have ha := hk2 (by omega)
    rw [eA_n (by omega), nI_leI (by omega) (by omega)]
    exact ⟨fun _ => ⟨rfl, hf1 (by unfold Alw; omega)⟩, fun _ => ⟨rfl, ht1 (by unfold Alw; omega)⟩⟩
  · have k0 : kd t = 2 := nEq (by omega) (by omega) e
    have ha := hk2 (by omega)
    obtain ⟨hb, -⟩ := hk6 (by omega) (by omega)
    rw [eA_n (by omega), eB_n (by omega), nI_leI (by omega) (by omega), nI_leI (by omega) (by omega), nI_eq (by omega) (by omega)]
    exact ⟨zinl rfl, fun _ => ⟨rfl, hf1 (by unfold Alw; omega)⟩, fun _ => ⟨fun _ => ⟨rfl, hf1 (by unfold Alw; omega)⟩, fun _ => ⟨fun _ => ⟨rfl, hf1 (by unfold Alw; omega)⟩, fun _ => ⟨rfl, ht1 (by unfold Alw; omega)⟩⟩⟩⟩
  · have k0 : kd t = 3 := nEq (by omega) (by omega) e
    have ha := hk2 (by omega)
    obtain ⟨hb, -⟩ := hk6 (by omega) (by omega)
    rw [eA_n (by omega), eB_n (by omega), nI_leI (by omega) (by omega), nI_leI (by omega) (by omega), nI_eq (by omega) (by omega)]
    exact ⟨zinl rfl, fun _ => ⟨rfl, hf1 (by unfold Alw; omega)⟩, fun _ => ⟨fun _ => ⟨rfl, hf1 (by unfold Alw; omega)⟩, fun _ => ⟨fun _ => ⟨rfl, hf1 (by unfold Alw; omega)⟩, fun _ => ⟨rfl, ht1 (by unfold Alw; omega)⟩⟩⟩⟩
  · have k0 : kd t = 4 := nEq (by omega) (by omega) e
    have ha := hk2 (by omega)
    have hb := hk7 (by omega)
    rw [eA_n (by omega), eB_n (by omega), nI_leI (by omega) (by omega), nI_ltI (by omega) (by omega)]
    exact ⟨fun _ => ⟨rfl, hf1 (by unfold Alw; omega)⟩, fun _ => ⟨w1, fun _ => ⟨rfl, hf1 (by unfold Alw; omega)⟩, fun _ => ⟨rfl, ht1 (by unfold Alw; omega)⟩⟩⟩
  · have k0 : kd t = 5 := nEq (by omega) (by omega) e
    have ha := hk3 (by omega) (by omega)
    rw [eA_n (by omega), nI_leI (by omega) (by omega)]
    exact ⟨fun _ => ⟨rfl, hf1 (by unfold Alw; omega)⟩, fun _ => ⟨rfl, ht1 (by unfold Alw; omega)⟩⟩
  · have k0 : kd t = 6 := nEq (by omega) (by omega) e
    have ha := hk3 (by omega) (by omega)
    rw [eA_n (by omega), nI_leI (by omega) (by omega)]
    exact ⟨fun _ => ⟨rfl, hf1 (by unfold Alw; omega)⟩, fun _ => ⟨rfl, ht1 (by unfold Alw; omega)⟩⟩
  · have k0 : kd t = 7 := nEq (by omega) (by omega) e
    have ha := hk3 (by omega) (by omega)
    have hb := hk7 (by omega)
    rw [eA_n (by omega), eB_n (by omega), nI_leI (by omega) (by omega), nI_ltI (by omega) (by omega)]
    exact ⟨fun _ => ⟨rfl, hf1 (by unfold Alw; omega)⟩, fun _ => ⟨w1, fun _ => ⟨rfl, hf1 (by unfold Alw; omega)⟩, fun _ => ⟨rfl, ht1 (by unfold Alw; omega)⟩⟩⟩
  · have k0 : kd t = 8 := nEq (by omega) (by omega) e
    have ha := hk3 (by omega) (by omega)
    have hb := hk7 (by omega)
    rw [eA_n (by omega), eB_n (by omega), nI_leI (by omega) (by omega), nI_ltI (by omega) (by omega)]
    exact ⟨fun _ => ⟨rfl, hf1 (by unfold Alw; omega)⟩, fun _ => ⟨w1, fun _ => ⟨rfl, hf1 (by unfold Alw; omega)⟩, fun _ => ⟨rfl, ht1 (by unfold Alw; omega)⟩⟩⟩
  · have k0 : kd t = 9 := nEq (by omega) (by omega) e
    have ha := hk4 (by omega)
    rw [eA_n (by omega), nI_ltI (by omega) (by omega)]
    exact ⟨w1, fun _ => ⟨rfl, hf1 (by unfold Alw; omega)⟩, fun _ => ⟨rfl, ht1 (by unfold Alw; omega)⟩⟩
  · have k0 : kd t = 10 := nEq (by omega) (by omega) e
    have ha := hk5 (by omega)
    rw [eA_n (by omega), nI_ltI (by omega) (by omega)]
    exact ⟨zinl rfl, fun _ => ⟨rfl, hf1 (by unfold Alw; omega)⟩, fun _ => ⟨rfl, ht1 (by unfold Alw; omega)⟩⟩
  · rw [nI_toInt (by omega)] at e
    exact ⟨rfl, ht1 (by unfold Alw; omega)⟩
theorem w_M_mayAct {q n t x0 x1 x3 x4 x5 : Nat} {kd fa fb : Nat → Nat} {S : ZSt} {Q : ZOut → ZSt → Prop} (hS : zSh S) (hW : zWy n kd fa fb) (hw : jWM S q n kd fa fb) (hq : q ≤ 6) (ht : t < n) (v0 : zI S 132 0 = nI x0) (v1 : zI S 132 1 = nI x1) (v3 : zI S 132 3 = nI x3) (v4 : zI S 132 4 = nI x4) (v5 : zI S 132 5 = nI x5) (b0 : x0 ≤ 12) (b1 : x1 ≤ 24) (b3 : x3 ≤ 3) (b4 : x4 ≤ 1) (b5 : x5 ≤ 1)
    (ht1 : Alw x0 x1 x3 x4 x5 n (kd t) (fa t) (fb t) → Q (.inl (some (.int (nI 1)))) S) (hf1 : ¬ Alw x0 x1 x3 x4 x5 n (kd t) (fa t) (fb t) → Q (.inl (some (.int (nI 0)))) S) : zC m_M_mayAct [.ref 130, .int (nI q), .int (nI t)] S Q := by
  obtain ⟨hn0, hn, hk⟩ := hW
  obtain ⟨hk1, hk2, hk3, hk4, hk5, hk6, hk7⟩ := hk t ht
  obtain ⟨w2, w5⟩ := hw
  obtain ⟨k1, k2, k3⟩ := w5 t ht
  have hi : vp_in (nI (24 * q + t)) 168 := zin (by omega) (by omega)
  have hj : vp_in (nI q) 7 := zin (by omega) (by omega)
  refine b_M_mayAct hS ?_
  rw [pk_mul, nI_add, zcl9 (by omega), zcl9 (n := q) (by omega), k1, k2, k3, v0, v1, v3, v4, v5, w2]
  refine ⟨hi, hi, hi, ⟨fun e => ?_, fun e => ?_, fun e => ?_, fun e => ?_, fun e => ?_, fun e => ?_, fun e => ?_, fun e => ?_, fun e => ?_, fun e => ?_, fun e => ?_, trivial⟩, fun e => ?_⟩
  · have k0 : kd t = 0 := nEq (by omega) (by omega) e
    have ha := hk2 (by omega)
    rw [eA_n (by omega), nI_leI (by omega) (by omega)]
    exact ⟨zinl rfl, fun _ => ⟨rfl, hf1 (by unfold Alw; omega)⟩, fun _ => ⟨rfl, ht1 (by unfold Alw; omega)⟩⟩
  · have k0 : kd t = 1 := nEq (by omega) (by omega) e
    have ha := hk2 (by omega)
    rw [eA_n (by omega), nI_leI (by omega) (by omega)]
    exact ⟨zinl rfl, fun _ => ⟨rfl, hf1 (by unfold Alw; omega)⟩, fun _ => ⟨rfl, ht1 (by unfold Alw; omega)⟩⟩
  · have k0 : kd t = 2 := nEq (by omega) (by omega) e
    have ha := hk2 (by omega)
    obtain ⟨hb, -⟩ := hk6 (by omega) (by omega)
    rw [eA_n (by omega), eB_n (by omega), nI_leI (by omega) (by omega), nI_leI (by omega) (by omega), nI_eq (by omega) (by omega)]
    exact ⟨zinl rfl, fun _ => ⟨rfl, hf1 (by unfold Alw; omega)⟩, fun _ => ⟨zinl rfl, fun _ => ⟨rfl, hf1 (by unfold Alw; omega)⟩, fun _ => ⟨zinl rfl, fun _ => ⟨rfl, hf1 (by unfold Alw; omega)⟩, fun _ => ⟨rfl, ht1 (by unfold Alw; omega)⟩⟩⟩⟩
  · have k0 : kd t = 3 := nEq (by omega) (by omega) e
    have ha := hk2 (by omega)
    obtain ⟨hb, -⟩ := hk6 (by omega) (by omega)
    rw [eA_n (by omega), eB_n (by omega), nI_leI (by omega) (by omega), nI_leI (by omega) (by omega), nI_eq (by omega) (by omega)]
    exact ⟨zinl rfl, fun _ => ⟨rfl, hf1 (by unfold Alw; omega)⟩, fun _ => ⟨zinl rfl, fun _ => ⟨rfl, hf1 (by unfold Alw; omega)⟩, fun _ => ⟨zinl rfl, fun _ => ⟨rfl, hf1 (by unfold Alw; omega)⟩, fun _ => ⟨rfl, ht1 (by unfold Alw; omega)⟩⟩⟩⟩
  · have k0 : kd t = 4 := nEq (by omega) (by omega) e
    have ha := hk2 (by omega)
    have hb := hk7 (by omega)
    rw [eA_n (by omega), eB_n (by omega), nI_leI (by omega) (by omega), nI_ltI (by omega) (by omega)]
    exact ⟨zinl rfl, fun _ => ⟨rfl, hf1 (by unfold Alw; omega)⟩, fun _ => ⟨hj, fun _ => ⟨rfl, hf1 (by unfold Alw; omega)⟩, fun _ => ⟨rfl, ht1 (by unfold Alw; omega)⟩⟩⟩
  · have k0 : kd t = 5 := nEq (by omega) (by omega) e
    have ha := hk3 (by omega) (by omega)
    rw [eA_n (by omega), nI_leI (by omega) (by omega)]
    exact ⟨zinl rfl, fun _ => ⟨rfl, hf1 (by unfold Alw; omega)⟩, fun _ => ⟨rfl, ht1 (by unfold Alw; omega)⟩⟩
  · have k0 : kd t = 6 := nEq (by omega) (by omega) e
    have ha := hk3 (by omega) (by omega)
    rw [eA_n (by omega), nI_leI (by omega) (by omega)]
    exact ⟨zinl rfl, fun _ => ⟨rfl, hf1 (by unfold Alw; omega)⟩, fun _ => ⟨rfl, ht1 (by unfold Alw; omega)⟩⟩
  · have k0 : kd t = 7 := nEq (by omega) (by omega) e
    have ha := hk3 (by omega) (by omega)
    have hb := hk7 (by omega)
    rw [eA_n (by omega), eB_n (by omega), nI_leI (by omega) (by omega), nI_ltI (by omega) (by omega)]
    exact ⟨zinl rfl, fun _ => ⟨rfl, hf1 (by unfold Alw; omega)⟩, fun _ => ⟨hj, fun _ => ⟨rfl, hf1 (by unfold Alw; omega)⟩, fun _ => ⟨rfl, ht1 (by unfold Alw; omega)⟩⟩⟩
  · have k0 : kd t = 8 := nEq (by omega) (by omega) e
    have ha := hk3 (by omega) (by omega)
    have hb := hk7 (by omega)
    rw [eA_n (by omega), eB_n (by omega), nI_leI (by omega) (by omega), nI_ltI (by omega) (by omega)]
    exact ⟨zinl rfl, fun _ => ⟨rfl, hf1 (by unfold Alw; omega)⟩, fun _ => ⟨hj, fun _ => ⟨rfl, hf1 (by unfold Alw; omega)⟩, fun _ => ⟨rfl, ht1 (by unfold Alw; omega)⟩⟩⟩
  · have k0 : kd t = 9 := nEq (by omega) (by omega) e
    have ha := hk4 (by omega)
    rw [eA_n (by omega), nI_ltI (by omega) (by omega)]
    exact ⟨hj, fun _ => ⟨rfl, hf1 (by unfold Alw; omega)⟩, fun _ => ⟨rfl, ht1 (by unfold Alw; omega)⟩⟩
  · have k0 : kd t = 10 := nEq (by omega) (by omega) e
    have ha := hk5 (by omega)
    rw [eA_n (by omega), nI_ltI (by omega) (by omega)]
    exact ⟨zinl rfl, fun _ => ⟨rfl, hf1 (by unfold Alw; omega)⟩, fun _ => ⟨rfl, ht1 (by unfold Alw; omega)⟩⟩
  · rw [nI_toInt (by omega)] at e
    exact ⟨rfl, ht1 (by unfold Alw; omega)⟩
