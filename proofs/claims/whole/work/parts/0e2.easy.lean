/-! The calls without loops, 3 -/
theorem zcell {c k : Nat} {x y : Int32} {xn yn : Nat} (hx : x = nI xn) (hy : y = nI yn) : x * nI c + y = nI (xn * c + yn) ∧ (nI k + nI c * x) + y = nI (k + (xn * c + yn)) := by
  subst hx hy
  have h1 : nI xn * nI c = nI (xn * c) := (Int32.ofNat_mul xn c).symm
  have h2 : nI c * nI xn = nI (xn * c) := by rw [Nat.mul_comm xn c]; exact (Int32.ofNat_mul c xn).symm
  refine ⟨by rw [h1, nI_add], ?_⟩
  rw [h2, nI_add, nI_add, Nat.add_assoc]
theorem p_field {v1 v2 v3 : Int32} {S : ZSt} (hS : zSh S) (hJ : jCore S) : zC m_L_field [.ref 75, .int v1, .int v2, .int v3, .ref 161] S (zTwoR S m_M_field [.int v1, .int v2, .int v3] (zAns [99, 105, 130, 131, 132] S jCore)) := by
  refine z_field hS ?_
  refine And.intro (fun _ => zBad rfl (by decide) (jCore_bad2 hJ)) (fun a1 => And.intro (fun a2 => And.intro (fun _ => zBad rfl (by decide) (jCore_bad2 hJ)) (fun b1 => And.intro (fun b2 => And.intro (fun _ => zBad rfl (by decide) (jCore_bad2 hJ)) (fun d1 => And.intro (fun d2 => ?_) (fun _ => zBad rfl (by decide) (jCore_bad2 hJ)))) (fun _ => zBad rfl (by decide) (jCore_bad2 hJ)))) (fun _ => zBad rfl (by decide) (jCore_bad2 hJ)))
  obtain ⟨x, hx, ex⟩ := znum a1 (by omega) a2
  obtain ⟨y, hy, ey⟩ := znum b1 (by omega) b2
  obtain ⟨w, hw, ew⟩ := znum d1 (by omega) d2
  obtain ⟨e1, e2⟩ := zcell (c := 4) (k := 83) ex ey
  have c1 : (nI (x * 4 + y)).toNatClampNeg = x * 4 + y := zcl9 (by omega)
  have c2 : (nI (83 + (x * 4 + y))).toNatClampNeg = 83 + (x * 4 + y) := zcl9 (by omega)
  rw [e1, e2, c1, c2]
  exact ⟨zin (by omega) (by omega), zin (by omega) (by omega), zOK2 rfl (hJ.1.2.2.2.2.1 _ (by omega)).1 (jCore_worth hJ (by omega) ⟨w, by omega, hw, ew⟩)⟩
theorem zlN0 : lN 0 = (nI 0).toInt64 := by decide
theorem zlN1 : lN 1 = (nI 1).toInt64 := by decide
theorem zOK3 {l : List Nat} {S : ZSt} {a j k : Nat} {y v : Int32} {x : Int64} (hl : ((zmem a l && !Nat.beq a 130) && (zmem 130 l && zmem 132 l)) = true) (e : x = y.toInt64) (h : jCore (zsI (zsI (zsL (zsI S a j v) 161 0 x) 130 0 (nI 0)) 132 k v)) : zAns l S jCore (nI 0) (.int y) (zsI (zsI (zsL (zsI S a j v) 161 0 x) 130 0 (nI 0)) 132 k v) := by
  obtain ⟨h1, h2⟩ := zand hl
  obtain ⟨h3, h4⟩ := zand h2
  exact ⟨_, rfl, rfl, fun _ => e, ((((zOnly.rf l S).I h1).L.O h3).I (by rw [h4]; rfl)).mono (by omega), h⟩
theorem p_mark {v1 v2 v3 : Int32} {S : ZSt} (hS : zSh S) (hJ : jCore S) : zC m_L_mark [.ref 75, .int v1, .int v2, .int v3, .ref 161] S (zTwoR S m_M_mark [.int v1, .int v2, .int v3] (zAnsB [100, 105, 130, 131, 132] S jCore)) := by
  refine z_mark hS ?_
  refine And.intro (fun _ => ⟨(), zBad rfl (by decide) (jCore_bad2 hJ), Or.inl rfl⟩) (fun a1 => And.intro (fun a2 => And.intro (fun _ => ⟨(), zBad rfl (by decide) (jCore_bad2 hJ), Or.inl rfl⟩) (fun b1 => And.intro (fun b2 => ?_) (fun _ => ⟨(), zBad rfl (by decide) (jCore_bad2 hJ), Or.inl rfl⟩))) (fun _ => ⟨(), zBad rfl (by decide) (jCore_bad2 hJ), Or.inl rfl⟩))
  obtain ⟨x, hx, ex⟩ := znum a1 (by omega) a2
  obtain ⟨y, hy, ey⟩ := znum b1 (by omega) b2
  obtain ⟨e1, e2⟩ := zcell (c := 6) (k := 107) ex ey
  have c1 : (nI (x * 6 + y)).toNatClampNeg = x * 6 + y := zcl9 (by omega)
  have c2 : (nI (107 + (x * 6 + y))).toNatClampNeg = 107 + (x * 6 + y) := zcl9 (by omega)
  rw [e1, e2, c1, c2]
  have hm := (hJ.1.2.2.2.2.2.1 (x * 6 + y) (by omega)).1
  rw [hm]
  have i1 : vp_in (nI (x * 6 + y)) 36 := zin (by omega) (by omega)
  have i2 : vp_in (nI (107 + (x * 6 + y))) 225 := zin (by omega) (by omega)
  repeat' (first | refine And.intro (fun _ => ?_) (fun _ => ?_) | refine And.intro ?_ ?_)
  all_goals first
    | exact i1
    | exact i2
    | (exfalso; contradiction)
    | (exfalso; simp_all; done)
    | exact ⟨(), zOK3 rfl zlN0 (jCore_mark hJ (by omega) ⟨0, by omega, by omega, rfl⟩), Or.inl rfl⟩
    | exact ⟨(), zOK3 rfl zlN1 (jCore_mark hJ (by omega) ⟨0, by omega, by omega, rfl⟩), Or.inr rfl⟩
    | exact ⟨(), zOK3 rfl zlN0 (jCore_mark hJ (by omega) ⟨1, by omega, by omega, rfl⟩), Or.inl rfl⟩
    | exact ⟨(), zOK3 rfl zlN1 (jCore_mark hJ (by omega) ⟨1, by omega, by omega, rfl⟩), Or.inr rfl⟩
/-- calls that don't throw: both answers at once -/
def zSay (l : List Nat) (S : ZSt) (P : ZSt → Prop) : Int32 → Value → ZSt → Prop := fun a b S2 => ∃ _ : Unit, b = .int a ∧ zOnly l 1 S S2 ∧ P S2
theorem zSay1 {S : ZSt} {x y : Int32} (e : x = y) (h : jCore S) : zSay [130] S jCore x (.int y) (zsI S 130 0 (nI 0)) := ⟨(), by rw [e], ((zOnly.rf [130] S).O rfl).mono (by omega), h⟩
theorem p_fault {S : ZSt} (hS : zSh S) (hJ : jCore S) (hf : zI S 76 8 = zI S 130 11) : zC m_N_fault [.ref 75] S (zTwoR S m_M_fault [] (zSay [130] S jCore)) := z_fault hS (zSay1 hf hJ)
theorem p_status {v1 : Int32} {S : ZSt} (hS : zSh S) (hJ : jCore S) : zC m_N_status [.ref 75, .int v1] S (zTwoR S m_M_status [.int v1] (zSay [130] S jCore)) := by
  refine z_status hS (And.intro (fun _ => zSay1 rfl hJ) (fun a1 => And.intro (fun a2 => ?_) (fun _ => zSay1 rfl hJ)))
  obtain ⟨x, hx, rfl⟩ := znum a1 (by omega) a2
  rw [zcl9 (by omega)]
  exact ⟨zin (by omega) (by omega), zSay1 (hJ.2 x (by omega)) hJ⟩
theorem p_count {v1 : Int32} {S : ZSt} (hS : zSh S) (hJ : jCore S) (h6 : zI S 75 6 = zI S 130 14) (h7 : zI S 75 7 = zI S 130 15) (h10 : zI S 75 10 = zI S 130 4) (h5 : zI S 76 1 = zI S 130 5) : zC m_N_count [.ref 75, .int v1] S (zTwoR S m_M_count [.int v1] (zSay [130] S jCore)) := by
  refine z_count hS ?_
  have t0 := zt (k := 0) rfl
  have t1 := zt (k := 1) rfl
  have t2 := zt (k := 2) rfl
  have t3 := zt (k := 3) rfl
  have z0 : (0 : Int32).toInt = 0 := rfl
  rw [h6, h7, h10, h5]
  repeat' (first | refine And.intro (fun _ => ?_) (fun _ => ?_) | refine And.intro (fun _ => ?_) ?_ | refine And.intro ?_ (fun _ => ?_) | refine And.intro ?_ ?_)
  all_goals first
    | trivial
    | exact zSay1 rfl hJ
    | (exfalso; simp only [zeq] at *; omega)
