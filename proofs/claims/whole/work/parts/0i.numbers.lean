/-! Numbers: object and reference answer alike -/
theorem zge0 {x : Int32} (h : 0 ≤ x) : ¬ (x < nI 0) := by
  rw [nI_0]
  exact Int32.not_lt.mpr h
theorem zge1 {x : Int32} (h : ¬ x < 0) : ¬ (x < nI 0) := by
  rw [nI_0]
  exact h
theorem p_places {v1 : Int32} {S : ZSt} (hS : zSh S) (hJ : jCore S) : zC m_L_places [.ref 75, .int v1, .ref 161] S (zTwoR S m_M_places [.int v1] (zAns [105, 130, 131] S jCore)) :=
  z_places hS ⟨fun h => ⟨zge0 h, zOK1 rfl rfl hJ⟩, fun _ => zBad rfl (by decide) (jCore_bad2 hJ)⟩
theorem p_pebbles {v1 : Int32} {S : ZSt} (hS : zSh S) (hJ : jCore S) : zC m_L_pebbles [.ref 75, .int v1, .ref 161] S (zTwoR S m_M_pebbles [.int v1] (zAns [105, 130, 131] S jCore)) :=
  z_pebbles hS ⟨fun h => ⟨zge0 h, zOK1 rfl rfl hJ⟩, fun _ => zBad rfl (by decide) (jCore_bad2 hJ)⟩
theorem zwords {v : Int32} (h1 : ¬ v < nI 1) (h2 : v ≤ nI 9) : 1 ≤ v.toInt ∧ v.toInt ≤ 9 := by
  rw [zlt, zt (k := 1) rfl] at h1
  rw [zle9, zt (k := 9) rfl] at h2
  omega
theorem p_tell {v1 v2 : Int32} {S : ZSt} (hS : zSh S) (hJ : jCore S) : zC m_L_tell [.ref 75, .int v1, .int v2, .ref 161] S (zTwoR S m_M_tell [.int v1, .int v2] (zAns [105, 130, 131] S jCore)) :=
  z_tell hS ⟨fun _ => zBad rfl (by decide) (jCore_bad2 hJ), fun h => ⟨fun _ => zBad rfl (by decide) (jCore_bad2 hJ), fun h1 => ⟨fun h2 => ⟨zge1 h, ⟨(zwords h1 h2).1, by have := (zwords h1 h2).2; omega⟩, zOK1 rfl rfl hJ⟩, fun _ => zBad rfl (by decide) (jCore_bad2 hJ)⟩⟩⟩
theorem p_stranger {v1 v2 v3 v4 : Int32} {S : ZSt} (hS : zSh S) (hJ : jCore S) : zC m_L_stranger [.ref 75, .int v1, .int v2, .int v3, .int v4, .ref 161] S (zTwoR S m_M_stranger [.int v1, .int v2, .int v3, .int v4] (zAns [105, 130, 131] S jCore)) :=
  z_stranger hS ⟨fun _ => zBad rfl (by decide) (jCore_bad2 hJ), fun h => ⟨fun _ => zBad rfl (by decide) (jCore_bad2 hJ), fun h1 => ⟨fun h2 => ⟨fun _ => zBad rfl (by decide) (jCore_bad2 hJ), fun _ => ⟨fun _ => ⟨fun _ => zBad rfl (by decide) (jCore_bad2 hJ), fun _ => ⟨fun _ => ⟨zge1 h, ⟨(zwords h1 h2).1, by have := (zwords h1 h2).2; omega⟩, zOK1 rfl rfl hJ⟩, fun _ => zBad rfl (by decide) (jCore_bad2 hJ)⟩⟩, fun _ => zBad rfl (by decide) (jCore_bad2 hJ)⟩⟩, fun _ => zBad rfl (by decide) (jCore_bad2 hJ)⟩⟩⟩
theorem p_word {v1 v2 : Int32} {S : ZSt} (hS : zSh S) (hJ : jCore S) : zC m_L_word [.ref 75, .int v1, .int v2, .ref 161] S (zTwoR S m_M_wordx [.int v1, .int v2] (zAns [105, 130, 131] S jCore)) := by
  refine z_word hS ⟨fun _ => zBad rfl (by decide) (jCore_bad2 hJ), fun h => ⟨fun _ => zBad rfl (by decide) (jCore_bad2 hJ), fun h1 => ⟨fun h2 => ?_, fun _ => zBad rfl (by decide) (jCore_bad2 hJ)⟩⟩⟩
  have h3 := zwords h1 h2
  have h4 : (v2 + nI 1).toInt = v2.toInt + 1 := by
    have t1 := zt (k := 1) rfl
    rw [zadd (by omega) (by omega), t1]
    rfl
  exact ⟨zge1 h, ⟨h3.1, by omega⟩, ⟨by omega, by omega⟩, zOK1 rfl rfl hJ⟩
