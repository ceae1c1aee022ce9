/-! The calls without loops: object and reference answer alike -/
theorem zOK1 {l : List Nat} {S : ZSt} {x y : Int32} (hl : zmem 130 l = true) (e : x = y) (h : jCore S) : zAns l S jCore (nI 0) (.int y) (zsI (zsL S 161 0 x.toInt64) 130 0 (nI 0)) :=
  ⟨(), rfl, fun _ => ⟨_, rfl, congrArg Int32.toInt64 e⟩, ((zOnly.rf l S).L.I hl).mono (by omega), h⟩
theorem p_told {v1 : Int32} {S : ZSt} (hS : zSh S) (hJ : jCore S) (h6 : zI S 75 6 = zI S 130 14) (h7 : zI S 75 7 = zI S 130 15) : zC m_L_told [.ref 75, .int v1, .ref 161] S (zTwoR m_M_told [.int v1] (zAns [105, 130, 131] S jCore)) := by
  refine z_told hS ?_
  have t0 := zt (k := 0) rfl
  have t6 := zt (k := 6) rfl
  have t7 := zt (k := 7) rfl
  repeat' (first | refine And.intro (fun _ => ?_) (fun _ => ?_) | refine And.intro ?_ ?_)
  all_goals first
    | exact zBad rfl (by decide) (jCore_bad2 hJ)
    | exact zOK1 rfl h6 hJ
    | exact zOK1 rfl h7 hJ
    | (exfalso; simp only [zlt, zle9, zeq] at *; omega)
    | (rw [zvp]; simp only [zlt, zle9, zeq] at *; omega)
    | (refine zOK1 rfl (hJ.1.1.1 _ ?_) hJ; rw [zcp]; simp only [zlt, zle9, zeq] at *; omega)
    | skip
