/-! States of mind: alike -/
theorem zrgI {v : Int32} {a b : Nat} (ha : Nat.blt a 2147483648 = true) (hb : Nat.blt b 2147483648 = true) (h1 : ¬ v < nI a) (h2 : v ≤ nI b) : (a : Int) ≤ v.toInt ∧ v.toInt ≤ (b : Int) := by
  rw [zlt, zt ha] at h1
  rw [zle9, zt hb] at h2
  omega
theorem p_mind {v1 : Int64} {v2 v3 : Int32} {S : ZSt} (hS : zSh S) (hJ : jCore S) : zC m_L_mind [.ref 75, .long v1, .int v2, .int v3, .ref 161] S (zTwoR S m_M_mind [.long v1, .int v2, .int v3] (zAns [105, 130, 131] S jCore)) := by
  refine z_mind hS ⟨fun _ => zBad rfl (by decide) (jCore_bad2 hJ), fun h1 => ⟨fun h2 => ⟨fun _ => zBad rfl (by decide) (jCore_bad2 hJ), fun _ => ⟨fun _ => ?_, fun _ => zBad rfl (by decide) (jCore_bad2 hJ)⟩⟩, fun _ => zBad rfl (by decide) (jCore_bad2 hJ)⟩⟩
  have hr := zrgI (a := 1) (b := 30) rfl rfl h1 h2
  refine ⟨hr, ?_⟩
  obtain ⟨k, hk, rfl⟩ : ∃ k : Nat, k < 2 ^ 31 ∧ v2 = nI k := ⟨v2.toInt.toNat, by omega, zofN (by omega)⟩
  rw [nI_toInt hk] at hr
  refine w_M_mind_25 k 1 k hS (by omega) (by omega) (by omega) ⟨_, rfl, zOK1 rfl ?_ hJ⟩
  unfold fMind
  rw [zcl9 hk]
