/-! The calls without loops: object and reference answer alike -/
theorem zOK1 {l : List Nat} {S : ZSt} {x y : Int32} (hl : zmem 130 l = true) (e : x = y) (h : jCore S) : zAns l S jCore (nI 0) (.int y) (zsI (zsL S 161 0 x.toInt64) 130 0 (nI 0)) :=
  ⟨_, rfl, rfl, fun _ => congrArg Int32.toInt64 e, ((zOnly.rf l S).L.O hl).mono (by omega), h⟩
theorem p_told {v1 : Int32} {S : ZSt} (hS : zSh S) (hJ : jCore S) (h6 : zI S 75 6 = zI S 130 14) (h7 : zI S 75 7 = zI S 130 15) : zC m_L_told [.ref 75, .int v1, .ref 161] S (zTwoR S m_M_told [.int v1] (zAns [105, 130, 131] S jCore)) := by
  refine z_told hS ?_
  have t0 := zt (k := 0) rfl
  have t6 := zt (k := 6) rfl
  have t7 := zt (k := 7) rfl
  repeat' (first | refine And.intro (fun _ => ?_) (fun _ => ?_) | refine And.intro ?_ ?_)
  all_goals first
    | exact zBad rfl (by decide) (jCore_bad2 hJ)
    | exact zOK1 rfl h6 hJ
    | exact zOK1 rfl h7 hJ
    | (exfalso; simp only [zlt, zle9, zeq] at *; omega)
    | (rw [zvp]; simp only [zlt, zle9, zeq] at *; omega)
    | (refine zOK1 rfl (hJ.1.1.1 _ ?_) hJ; rw [zcp]; simp only [zlt, zle9, zeq] at *; omega)
/-- a number changed on both sides -/
theorem zOK2 {l : List Nat} {S : ZSt} {a j k : Nat} {x y v : Int32} (hl : ((zmem a l && !Nat.beq a 130) && (zmem 130 l && zmem 132 l)) = true) (e : x = y) (h : jCore (zsI (zsI (zsL (zsI S a j v) 161 0 x.toInt64) 130 0 (nI 0)) 132 k v)) : zAns l S jCore (nI 0) (.int y) (zsI (zsI (zsL (zsI S a j v) 161 0 x.toInt64) 130 0 (nI 0)) 132 k v) := by
  obtain ⟨h1, h2⟩ := zand hl
  obtain ⟨h3, h4⟩ := zand h2
  exact ⟨_, rfl, rfl, fun _ => congrArg Int32.toInt64 e, ((((zOnly.rf l S).I h1).L.O h3).I (by rw [h4]; rfl)).mono (by omega), h⟩
theorem jCore_heap {S : ZSt} (h : jCore S) {j : Nat} (hj : j < 12) {v : Int32} {w : Int64} (hv : jRg v 0 1000000000) : jCore (zsI (zsI (zsL (zsI S 94 j v) 161 0 w) 130 0 (nI 0)) 132 (11 + j) v) := by
  obtain ⟨⟨a, b, c, d, e, f, g, h, i⟩, r⟩ := h
  exact ⟨⟨a.keep fun q hq => upd_ne (by omega), b.put hv, c.keep fun q _ _ => upd_ne (by omega), d.keep fun q _ _ _ => upd_ne (by omega), e.keep fun q _ _ => upd_ne (by omega), f.keep fun q _ _ => upd_ne (by omega), g.keep fun q _ _ => upd_ne (by omega), h.keep fun q _ _ => upd_ne (by omega), i.keep fun q _ => upd_ne (by omega)⟩, r⟩
theorem jCore_place {S : ZSt} (h : jCore S) {j : Nat} (hj : j < 24) {v : Int32} {w : Int64} (hv : jRg v 0 3) : jCore (zsI (zsI (zsL (zsI S 95 j v) 161 0 w) 130 0 (nI 0)) 132 (23 + j) v) := by
  obtain ⟨⟨a, b, c, d, e, f, g, h, i⟩, r⟩ := h
  exact ⟨⟨a.keep fun q hq => upd_ne (by omega), b.keep fun q _ _ => upd_ne (by omega), c.put hv, d.keep fun q _ _ _ => upd_ne (by omega), e.keep fun q _ _ => upd_ne (by omega), f.keep fun q _ _ => upd_ne (by omega), g.keep fun q _ _ => upd_ne (by omega), h.keep fun q _ _ => upd_ne (by omega), i.keep fun q _ => upd_ne (by omega)⟩, r⟩
theorem jCore_worth {S : ZSt} (h : jCore S) {j : Nat} (hj : j < 24) {v : Int32} {w : Int64} (hv : jRg v 0 99) : jCore (zsI (zsI (zsL (zsI S 99 j v) 161 0 w) 130 0 (nI 0)) 132 (83 + j) v) := by
  obtain ⟨⟨a, b, c, d, e, f, g, h, i⟩, r⟩ := h
  exact ⟨⟨a.keep fun q hq => upd_ne (by omega), b.keep fun q _ _ => upd_ne (by omega), c.keep fun q _ _ => upd_ne (by omega), d.keep fun q _ _ _ => upd_ne (by omega), e.put hv, f.keep fun q _ _ => upd_ne (by omega), g.keep fun q _ _ => upd_ne (by omega), h.keep fun q _ _ => upd_ne (by omega), i.keep fun q _ => upd_ne (by omega)⟩, r⟩
theorem jCore_mark {S : ZSt} (h : jCore S) {j : Nat} (hj : j < 36) {v : Int32} {w : Int64} (hv : jRg v 0 1) : jCore (zsI (zsI (zsL (zsI S 100 j v) 161 0 w) 130 0 (nI 0)) 132 (107 + j) v) := by
  obtain ⟨⟨a, b, c, d, e, f, g, h, i⟩, r⟩ := h
  exact ⟨⟨a.keep fun q hq => upd_ne (by omega), b.keep fun q _ _ => upd_ne (by omega), c.keep fun q _ _ => upd_ne (by omega), d.keep fun q _ _ _ => upd_ne (by omega), e.keep fun q _ _ => upd_ne (by omega), f.put hv, g.keep fun q _ _ => upd_ne (by omega), h.keep fun q _ _ => upd_ne (by omega), i.keep fun q _ => upd_ne (by omega)⟩, r⟩
theorem jCore_knows {S : ZSt} (h : jCore S) {j : Nat} (hj : j < 10) {v : Int32} {w : Int64} (hv : v = - nI 1 ∨ ∃ n, n < j ∧ v = nI n) : jCore (zsI (zsI (zsL (zsI S 103 j v) 161 0 w) 130 0 (nI 0)) 132 (215 + j) v) := by
  obtain ⟨⟨a, b, c, d, e, f, g, h, i⟩, r⟩ := h
  exact ⟨⟨a.keep fun q hq => upd_ne (by omega), b.keep fun q _ _ => upd_ne (by omega), c.keep fun q _ _ => upd_ne (by omega), d.keep fun q _ _ _ => upd_ne (by omega), e.keep fun q _ _ => upd_ne (by omega), f.keep fun q _ _ => upd_ne (by omega), g.keep fun q _ _ => upd_ne (by omega), h.keep fun q _ _ => upd_ne (by omega), i.put hv⟩, r⟩
theorem zidx {k : Nat} {x : Int32} (h0 : 0 ≤ x.toInt) (h : (k : Int) + x.toInt < 2147483648) : (nI k + x).toNatClampNeg = k + x.toNatClampNeg := by
  have hk : (nI k).toInt = (k : Int) := nI_toInt (by omega)
  rw [zcp, zcp, zadd (by omega) (by omega), hk]
  omega
theorem zidx2 {k : Nat} {x : Int32} (h0 : 0 ≤ x.toInt) (h : (k : Int) + x.toInt < 2147483648) : (nI k + x).toInt = k + x.toInt := by
  have hk : (nI k).toInt = (k : Int) := nI_toInt (by omega)
  rw [zadd (by omega) (by omega), hk]
theorem p_heap {v1 v2 : Int32} {S : ZSt} (hS : zSh S) (hJ : jCore S) : zC m_L_heap [.ref 75, .int v1, .int v2, .ref 161] S (zTwoR S m_M_heap [.int v1, .int v2] (zAns [94, 105, 130, 131, 132] S jCore)) := by
  refine z_heap hS ?_
  have t0 := zt (k := 0) rfl
  have t1 := zt (k := 1) rfl
  have tB := zt (k := 1000000000) rfl
  have e0 : zI S 93 0 = zI S 132 0 := hJ.1.1.1 0 (by omega)
  have r0 := jRg_i hJ.1.1.2.1 (by omega)
  have s0 : (zI S 132 0 - nI 1).toInt = (zI S 132 0).toInt - 1 := by rw [zsub (by omega) (by omega), t1]; rfl
  rw [e0]
  repeat' (first | refine And.intro (fun _ => ?_) (fun _ => ?_) | refine And.intro ?_ ?_)
  all_goals first
    | exact zBad rfl (by decide) (jCore_bad2 hJ)
    | (exfalso; simp only [zlt, zle9, zeq] at *; omega)
    | (rw [zvp]; simp only [zlt, zle9, zeq] at *; omega)
    | (rw [zvp, zidx2 (by simp only [zlt, zle9, zeq] at *; omega) (by simp only [zlt, zle9, zeq] at *; omega)]; simp only [zlt, zle9, zeq] at *; omega)
    | (rw [zidx (by simp only [zlt, zle9, zeq] at *; omega) (by simp only [zlt, zle9, zeq] at *; omega)]
       have hj : v1.toNatClampNeg < 12 := by rw [zcp]; simp only [zlt, zle9, zeq] at *; omega
       exact zOK2 rfl (hJ.1.2.1 _ hj).1 (jCore_heap hJ hj (jRg_of (by simp only [zlt, zle9, zeq] at *; omega) (by simp only [zlt, zle9, zeq] at *; omega))))
