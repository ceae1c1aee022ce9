/-! The most pebbles: alike -/
theorem p_fewest {v1 : Int32} {S : ZSt} (hS : zSh S) (hJ : jCore S) : zC m_L_fewest [.ref 75, .int v1, .ref 161] S (zTwoR S m_M_fewest [.int v1] (zAns [105, 130, 131] S jCore)) := by
  refine i_L_fewest hS ⟨fun h => ⟨zge0 h, _, rfl, ⟨rfl, rfl, rfl, hS⟩, i_M_fewest hS ⟨fun h9 => absurd h9 (Int32.not_lt.mpr h), fun h9 => ⟨zge0 h, ?_⟩⟩⟩, fun h => ⟨_, rfl, ⟨rfl, rfl, rfl, hS⟩, i_M_fewest hS ⟨fun _ => ⟨_, rfl, zBad rfl (by decide) (jCore_bad2 hJ)⟩, fun h9 => absurd (Int32.not_lt.mp h9) h⟩⟩⟩
  obtain ⟨n, hn, rfl⟩ := znat (zge0 h)
  have e : fSum (nI n) = nI (ds 16 n) := by
    unfold fSum
    rw [zcl9 hn]
  have hd := ds_le 16 n
  have hl : n < 4 ^ (1 + nd 16 (n / 4)) := by
    have h1 := nd_lt 16 (n / 4) (p416 (by omega))
    rw [Nat.add_comm, p4s]
    omega
  rw [e]
  refine w_M_fewest_16 (1 + nd 16 (n / 4)) 0 n (ds 16 n) hS hn (by omega) (by rw [Nat.pow_zero, Nat.div_one]; exact hl) (by omega) ⟨_, rfl, zOK1 rfl ?_ hJ⟩
  unfold fMost
  rw [zcl9 hn, Nat.pow_zero, Nat.div_one, mp_same hl (p416 hn)]
