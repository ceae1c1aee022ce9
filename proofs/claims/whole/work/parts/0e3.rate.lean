/-! Rates -/
theorem zcell2 {c k : Nat} {x y : Int32} {xn yn : Nat} (hx : x = nI xn) (hy : y = nI yn) : nI k + (nI c * x + y) = nI (k + (xn * c + yn)) := by
  subst hx hy
  have h2 : nI c * nI xn = nI (xn * c) := by rw [Nat.mul_comm xn c]; exact (Int32.ofNat_mul c xn).symm
  rw [h2, nI_add, nI_add]
theorem jCore_rate {S : ZSt} (h : jCore S) {j : Nat} (hj : j < 36) {v v' : Int32} {w : Int64} (hv : jRg v 0 99) (hv' : jRg v' 0 99) : jCore (zsI (zsI (zsI (zsL (zsI (zsI S 101 j v) 102 j v') 161 0 w) 130 0 (nI 0)) 132 (143 + j) v) 132 (179 + j) v') := by
  obtain ⟨⟨a, b, c, d, e, f, g, h, i⟩, r⟩ := h
  refine ⟨⟨(a.keep fun q hq => upd_ne (by omega)).keep fun q hq => upd_ne (by omega), (b.keep fun q _ _ => upd_ne (by omega)).keep fun q _ _ => upd_ne (by omega), (c.keep fun q _ _ => upd_ne (by omega)).keep fun q _ _ => upd_ne (by omega), (d.keep fun q _ _ _ => upd_ne (by omega)).keep fun q _ _ _ => upd_ne (by omega), (e.keep fun q _ _ => upd_ne (by omega)).keep fun q _ _ => upd_ne (by omega), (f.keep fun q _ _ => upd_ne (by omega)).keep fun q _ _ => upd_ne (by omega), (g.put hv).keep fun q _ _ => upd_ne (by omega), jW.put (h.keep fun q _ _ => upd_ne (by omega)) hv', (i.keep fun q _ => upd_ne (by omega)).keep fun q _ => upd_ne (by omega)⟩, r⟩
theorem p_rate {v1 v2 v3 v4 : Int32} {S : ZSt} (hS : zSh S) (hJ : jCore S) : zC m_L_rate [.ref 75, .int v1, .int v2, .int v3, .int v4, .ref 161] S (zTwoR S m_M_rate [.int v1, .int v2, .int v3, .int v4] (zAns [101, 102, 105, 130, 131, 132] S jCore)) := by
  refine z_rate hS ?_
  refine And.intro (fun _ => zBad rfl (by decide) (jCore_bad2 hJ)) (fun a1 => And.intro (fun a2 => And.intro (fun _ => zBad rfl (by decide) (jCore_bad2 hJ)) (fun b1 => And.intro (fun b2 => And.intro (fun _ => ?_) (fun _ => zBad rfl (by decide) (jCore_bad2 hJ))) (fun _ => zBad rfl (by decide) (jCore_bad2 hJ)))) (fun _ => zBad rfl (by decide) (jCore_bad2 hJ)))
  obtain ⟨x, hx, ex⟩ := znum a1 (by omega) a2
  obtain ⟨y, hy, ey⟩ := znum b1 (by omega) b2
  have e1 := (zcell (c := 6) (k := 0) ex ey).1
  have e2 := zcell2 (c := 6) (k := 143) ex ey
  have e3 := zcell2 (c := 6) (k := 179) ex ey
  have c1 : (nI (x * 6 + y)).toNatClampNeg = x * 6 + y := zcl9 (by omega)
  have c2 : (nI (143 + (x * 6 + y))).toNatClampNeg = 143 + (x * 6 + y) := zcl9 (by omega)
  have c3 : (nI (179 + (x * 6 + y))).toNatClampNeg = 179 + (x * 6 + y) := zcl9 (by omega)
  rw [e1, e2, e3, c1, c2, c3]
  have i1 : vp_in (nI (x * 6 + y)) 36 := zin (by omega) (by omega)
  have i2 : vp_in (nI (143 + (x * 6 + y))) 225 := zin (by omega) (by omega)
  have i3 : vp_in (nI (179 + (x * 6 + y))) 225 := zin (by omega) (by omega)
  rw [(hJ.1.2.2.2.2.2.2.1 (x * 6 + y) (by omega)).1, (hJ.1.2.2.2.2.2.2.2.1 (x * 6 + y) (by omega)).1]
  have hg : ∀ (g3 : jRg v3 0 99) (g4 : jRg v4 0 99) {w : Int32}, zAns [101, 102, 105, 130, 131, 132] S jCore (nI 0) (.int w) (zsI (zsI (zsI (zsL (zsI (zsI S 101 (x * 6 + y) v3) 102 (x * 6 + y) v4) 161 0 w.toInt64) 130 0 (nI 0)) 132 (143 + (x * 6 + y)) v3) 132 (179 + (x * 6 + y)) v4) := fun g3 g4 w =>
    ⟨_, rfl, rfl, fun _ => rfl, ((((((zOnly.rf _ S).I rfl).I rfl).L.O rfl).I rfl).I rfl).mono (by omega), jCore_rate hJ (by omega) g3 g4⟩
  have t0 := zt (k := 0) rfl
  have t1 := zt (k := 1) rfl
  have t99 := zt (k := 99) rfl
  have z0 : (0 : Int32).toInt = 0 := rfl
  clear e1 e2 e3 c1 c2 c3 ex ey a1 a2 b1 b2
  repeat' (first | refine And.intro (fun _ => ?_) (fun _ => ?_) | refine And.intro ?_ ?_)
  all_goals first
    | exact zBad rfl (by decide) (jCore_bad2 hJ)
    | exact i1
    | exact i2
    | exact i3
    | exact hg (jRg_of (by simp only [zlt, zle9, zeq] at *; omega) (by simp only [zlt, zle9, zeq] at *; omega)) (jRg_of (by simp only [zlt, zle9, zeq] at *; omega) (by simp only [zlt, zle9, zeq] at *; omega))
    | (exfalso; simp only [zlt, zle9, zeq] at *; omega)
