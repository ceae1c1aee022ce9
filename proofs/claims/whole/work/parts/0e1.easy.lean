/-! The calls without loops, 2 -/
theorem p_place {v1 v2 : Int32} {S : ZSt} (hS : zSh S) (hJ : jCore S) : zC m_L_place [.ref 75, .int v1, .int v2, .ref 161] S (zTwoR S m_M_place [.int v1, .int v2] (zAns [95, 105, 130, 131, 132] S jCore)) := by
  refine z_place hS ?_
  have t0 := zt (k := 0) rfl
  have t1 := zt (k := 1) rfl
  have t3 := zt (k := 3) rfl
  have e0 : zI S 93 1 = zI S 132 1 := hJ.1.1.1 1 (by omega)
  have r0 := jRg_i hJ.1.1.2.2.1 (by omega)
  have s0 : (zI S 132 1 - nI 1).toInt = (zI S 132 1).toInt - 1 := by rw [zsub (by omega) (by omega), t1]; rfl
  rw [e0]
  repeat' (first | refine And.intro (fun _ => ?_) (fun _ => ?_) | refine And.intro ?_ ?_)
  all_goals first
    | exact zBad rfl (by decide) (jCore_bad2 hJ)
    | (exfalso; simp only [zlt, zle9, zeq] at *; omega)
    | (rw [zvp]; simp only [zlt, zle9, zeq] at *; omega)
    | (rw [zvp, zidx2 (by simp only [zlt, zle9, zeq] at *; omega) (by simp only [zlt, zle9, zeq] at *; omega)]; simp only [zlt, zle9, zeq] at *; omega)
    | (rw [zidx (by simp only [zlt, zle9, zeq] at *; omega) (by simp only [zlt, zle9, zeq] at *; omega)]
       have hj : v1.toNatClampNeg < 24 := by rw [zcp]; simp only [zlt, zle9, zeq] at *; omega
       exact zOK2 rfl (hJ.1.2.2.1 _ hj).1 (jCore_place hJ hj (jRg_of (by simp only [zlt, zle9, zeq] at *; omega) (by simp only [zlt, zle9, zeq] at *; omega))))
/-- what a run has left, or nothing -/
theorem p_ends {v1 : Int32} {S : ZSt} (hS : zSh S) (hJ : jCore S) : zC m_L_ends [.ref 75, .int v1, .ref 161] S (zTwoR S m_M_ends [.int v1] (zAns [105, 130, 131] S jCore)) := by
  refine z_ends hS ?_
  have t0 := zt (k := 0) rfl
  have t1 := zt (k := 1) rfl
  have t3 := zt (k := 3) rfl
  have z0 : (0 : Int32).toInt = 0 := rfl
  have e0 : zI S 92 3 = zI S 132 6 := hJ.1.2.2.2.1.2.1
  have r0 := jRg_i hJ.1.2.2.2.1.1 (by omega)
  have rn := hJ.1.2.2.2.1.2.2
  rw [e0]
  repeat' (first | refine And.intro (fun _ => ?_) (fun _ => ?_) | refine And.intro ?_ ?_)
  all_goals first
    | exact zBad rfl (by decide) (jCore_bad2 hJ)
    | exact zOK1 rfl rfl hJ
    | (exfalso; simp only [zlt, zle9, zeq] at *; omega)
    | (rw [zvp]; simp only [zlt, zle9, zeq] at *; omega)
    | (rw [zvp, zidx2 (by simp only [zlt, zle9, zeq] at *; omega) (by simp only [zlt, zle9, zeq] at *; omega)]; simp only [zlt, zle9, zeq] at *; omega)
    | (rw [zidx (by simp only [zlt, zle9, zeq] at *; omega) (by simp only [zlt, zle9, zeq] at *; omega)]
       have hj : v1.toNatClampNeg < 4 := by rw [zcp]; simp only [zlt, zle9, zeq] at *; omega
       have h1 : zI S 132 6 = nI 1 := by simp only [zlt, zle9, zeq] at *; omega
       exact zOK1 rfl ((rn h1).1 _ hj) hJ)
theorem p_row {v1 : Int32} {S : ZSt} (hS : zSh S) (hJ : jCore S) : zC m_L_row [.ref 75, .int v1, .ref 161] S (zTwoR S m_M_row [.int v1] (zAns [105, 130, 131] S jCore)) := by
  refine z_row hS ?_
  have t0 := zt (k := 0) rfl
  have t1 := zt (k := 1) rfl
  have z0 : (0 : Int32).toInt = 0 := rfl
  have e0 : zI S 92 3 = zI S 132 6 := hJ.1.2.2.2.1.2.1
  have r0 := jRg_i hJ.1.2.2.2.1.1 (by omega)
  have rn := hJ.1.2.2.2.1.2.2
  have e1 : zI S 93 0 = zI S 132 0 := hJ.1.1.1 0 (by omega)
  have r1 := jRg_i hJ.1.1.2.1 (by omega)
  have s0 : (zI S 132 0 - nI 1).toInt = (zI S 132 0).toInt - 1 := by rw [zsub (by omega) (by omega), t1]; rfl
  rw [e0, e1]
  repeat' (first | refine And.intro (fun _ => ?_) (fun _ => ?_) | refine And.intro ?_ ?_)
  all_goals first
    | exact zBad rfl (by decide) (jCore_bad2 hJ)
    | exact zOK1 rfl rfl hJ
    | (exfalso; simp only [zlt, zle9, zeq] at *; omega)
    | (rw [zvp]; simp only [zlt, zle9, zeq] at *; omega)
    | (rw [zvp, zidx2 (by simp only [zlt, zle9, zeq] at *; omega) (by simp only [zlt, zle9, zeq] at *; omega)]; simp only [zlt, zle9, zeq] at *; omega)
    | (rw [zidx (by simp only [zlt, zle9, zeq] at *; omega) (by simp only [zlt, zle9, zeq] at *; omega)]
       have hj : v1.toNatClampNeg < 12 := by rw [zcp]; simp only [zlt, zle9, zeq] at *; omega
       have h1 : zI S 132 6 = nI 1 := by simp only [zlt, zle9, zeq] at *; omega
       exact zOK1 rfl ((rn h1).2.1 _ hj).1 hJ)
theorem p_left {v1 : Int32} {S : ZSt} (hS : zSh S) (hJ : jCore S) : zC m_L_left [.ref 75, .int v1, .ref 161] S (zTwoR S m_M_left [.int v1] (zAns [105, 130, 131] S jCore)) := by
  refine z_left hS ?_
  have t0 := zt (k := 0) rfl
  have t1 := zt (k := 1) rfl
  have z0 : (0 : Int32).toInt = 0 := rfl
  have e0 : zI S 92 3 = zI S 132 6 := hJ.1.2.2.2.1.2.1
  have r0 := jRg_i hJ.1.2.2.2.1.1 (by omega)
  have rn := hJ.1.2.2.2.1.2.2
  have e1 : zI S 93 1 = zI S 132 1 := hJ.1.1.1 1 (by omega)
  have r1 := jRg_i hJ.1.1.2.2.1 (by omega)
  have s0 : (zI S 132 1 - nI 1).toInt = (zI S 132 1).toInt - 1 := by rw [zsub (by omega) (by omega), t1]; rfl
  rw [e0, e1]
  repeat' (first | refine And.intro (fun _ => ?_) (fun _ => ?_) | refine And.intro ?_ ?_)
  all_goals first
    | exact zBad rfl (by decide) (jCore_bad2 hJ)
    | exact zOK1 rfl rfl hJ
    | (exfalso; simp only [zlt, zle9, zeq] at *; omega)
    | (rw [zvp]; simp only [zlt, zle9, zeq] at *; omega)
    | (rw [zvp, zidx2 (by simp only [zlt, zle9, zeq] at *; omega) (by simp only [zlt, zle9, zeq] at *; omega)]; simp only [zlt, zle9, zeq] at *; omega)
    | (rw [zidx (by simp only [zlt, zle9, zeq] at *; omega) (by simp only [zlt, zle9, zeq] at *; omega)]
       have hj : v1.toNatClampNeg < 24 := by rw [zcp]; simp only [zlt, zle9, zeq] at *; omega
       have h1 : zI S 132 6 = nI 1 := by simp only [zlt, zle9, zeq] at *; omega
       exact zOK1 rfl ((rn h1).2.2 _ hj).1 hJ)
theorem p_knows {v1 v2 : Int32} {S : ZSt} (hS : zSh S) (hJ : jCore S) : zC m_L_knows [.ref 75, .int v1, .int v2, .ref 161] S (zTwoR S m_M_knows [.int v1, .int v2] (zAns [103, 105, 130, 131, 132] S jCore)) := by
  refine z_knows hS ?_
  have t1 := zt (k := 1) rfl
  have t2 := zt (k := 2) rfl
  have t9 := zt (k := 9) rfl
  have tn := ztn (k := 1) rfl
  repeat' (first | refine And.intro (fun _ => ?_) (fun _ => ?_) | refine And.intro ?_ ?_)
  all_goals first
    | exact zBad rfl (by decide) (jCore_bad2 hJ)
    | (rw [zvp]; simp only [zlt, zle9, zeq] at *; omega)
    | (rw [zvp, zidx2 (by simp only [zlt, zle9, zeq] at *; omega) (by simp only [zlt, zle9, zeq] at *; omega)]; simp only [zlt, zle9, zeq] at *; omega)
    | (rw [zidx (by simp only [zlt, zle9, zeq] at *; omega) (by simp only [zlt, zle9, zeq] at *; omega)]
       have hj : v1.toNatClampNeg < 10 := by rw [zcp]; simp only [zlt, zle9, zeq] at *; omega
       have s0 : (v1 - nI 1).toInt = v1.toInt - 1 := by
         rw [zsub (by simp only [zlt, zle9, zeq] at *; omega) (by simp only [zlt, zle9, zeq] at *; omega), t1]; rfl
       refine zOK2 rfl (hJ.1.2.2.2.2.2.2.2.2 _ hj).1 (jCore_knows hJ hj ?_)
       by_cases hn : v2.toInt = -1
       · left
         rw [zeq, tn]
         omega
       · right
         refine ⟨v2.toInt.toNat, ?_, zofN ?_⟩
         · rw [zcp]
           simp only [zlt, zle9, zeq] at *
           omega
         · simp only [zlt, zle9, zeq] at *
           omega)
