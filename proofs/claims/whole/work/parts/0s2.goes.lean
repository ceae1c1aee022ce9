/-! The reference's runs -/
theorem nI_z {x : Nat} (h : x < 2 ^ 31) : nI x = 0 ↔ x = 0 := by
  rw [← nI_0, nI_eq h (by omega)]
def jQ (S : ZSt) (r : (Nat → Nat) × (Nat → Nat) × Nat × Nat × Nat × Nat) : Prop := jN (zI S 146) 12 1000000000 r.1 ∧ jN (zI S 147) 24 3 r.2.1 ∧ zI S 130 31 = nI r.2.2.1 ∧ zI S 130 30 = nI r.2.2.2.1 ∧ zI S 130 29 = nI r.2.2.2.2.1 ∧ zI S 130 32 = nI r.2.2.2.2.2
theorem nxk {k a b t : Nat} {h p : Nat → Nat} (h1 : k ≠ 4) (h2 : k ≠ 7) (h3 : k ≠ 8) (h4 : k ≠ 9) : nx k a b t h p = t + 1 := by
  unfold nx
  rw [if_neg h1, if_neg h2, if_neg h3, if_neg h4]
theorem w_M_does {q n t : Nat} {kd fa fb : Nat → Nat} {h p : Nat → Nat} {S : ZSt} {Q : ZOut → ZSt → Prop} (hS : zSh S) (hW : zWy n kd fa fb) (hw : jWM S q n kd fa fb) (hq : q ≤ 6) (ht : t < n) (hH : jN (zI S 146) 12 1000000000 h) (hP : jN (zI S 147) 24 3 p) (ej : zI S 130 33 = nI (t + 1))
    (hok : ∀ r, dox (kd t) (fa t) (fb t) h p = some r → ∀ S', zJ [130, 146, 147] S S' → (∀ j, j ≠ 33 → zI S' 130 j = zI S 130 j) → jN (zI S' 146) 12 1000000000 r.1 → jN (zI S' 147) 24 3 r.2 → zI S' 130 33 = nI (nx (kd t) (fa t) (fb t) t r.1 r.2) → Q (.inl (some (.int (nI 1)))) S')
    (hno : dox (kd t) (fa t) (fb t) h p = none → Q (.inl (some (.int (nI 0)))) S) : zC m_M_does [.ref 130, .int (nI (24 * q + t))] S Q := by
  obtain ⟨hn0, hn, hk⟩ := hW
  obtain ⟨hk1, hk2, hk3, hk4, hk5, hk6, hk7⟩ := hk t ht
  obtain ⟨w1, w2⟩ := hw
  obtain ⟨k1, k2, k3⟩ := w2 t ht
  have hi : vp_in (nI (24 * q + t)) 168 := zin (by omega) (by omega)
  refine b_M_does hS ?_
  rw [zcl9 (by omega), k1, k2, k3]
  refine ⟨hi, hi, hi, ⟨fun e => ?_, fun e => ?_, fun e => ?_, fun e => ?_, fun e => ?_, fun e => ?_, fun e => ?_, fun e => ?_, fun e => ?_, fun e => ?_, trivial⟩, fun e => ?_⟩
  · have k0 : kd t = 0 := nEq (by omega) (by omega) e
    have ha := hk2 (by omega)
    obtain ⟨xa, ya⟩ := hH _ ha
    have hv : vp_in (nI (fa t)) 12 := zin ha (by omega)
    have hd : dox (kd t) (fa t) (fb t) h p = if h (fa t) < 1000000000 then some (upn h (fa t) (h (fa t) + 1), p) else none := by rw [k0]; rfl
    rw [hd] at hok hno
    rw [eA_n (by omega), zcl9 (by omega), xa, nI_eq (by omega) (by omega), nI_add]
    exact ⟨hv, fun h1 => ⟨hv, hv, rfl, hok _ (if_pos (by omega)) _ (zJ.rf.I rfl) (fun _ _ => rfl) (by rw [zI_eq]; exact hH.put (by omega)) (by rw [zI_ne _ _ (by omega)]; exact hP) (by rw [zI_ne _ _ (by omega), ej, nxk (by omega) (by omega) (by omega) (by omega)])⟩, fun h1 => ⟨rfl, hno (if_neg (by omega))⟩⟩
  · have k0 : kd t = 1 := nEq (by omega) (by omega) e
    have ha := hk2 (by omega)
    obtain ⟨xa, ya⟩ := hH _ ha
    have hv : vp_in (nI (fa t)) 12 := zin ha (by omega)
    have hd : dox (kd t) (fa t) (fb t) h p = if 0 < h (fa t) then some (upn h (fa t) (h (fa t) - 1), p) else none := by rw [k0]; rfl
    rw [hd] at hok hno
    rw [eA_n (by omega), zcl9 (by omega), xa, nI_z (by omega)]
    refine ⟨hv, fun h1 => ⟨hv, hv, rfl, ?_⟩, fun h1 => ⟨rfl, hno (if_neg (by omega))⟩⟩
    rw [zsub1 (by omega)]
    exact hok _ (if_pos (by omega)) _ (zJ.rf.I rfl) (fun _ _ => rfl) (by rw [zI_eq]; exact hH.put (by omega)) (by rw [zI_ne _ _ (by omega)]; exact hP) (by rw [zI_ne _ _ (by omega), ej, nxk (by omega) (by omega) (by omega) (by omega)])
  · have k0 : kd t = 2 := nEq (by omega) (by omega) e
    have ha := hk2 (by omega)
    obtain ⟨hb, hab⟩ := hk6 (by omega) (by omega)
    obtain ⟨xa, ya⟩ := hH _ ha
    obtain ⟨xb, yb⟩ := hH _ hb
    have hv : vp_in (nI (fa t)) 12 := zin ha (by omega)
    have hu : vp_in (nI (fb t)) 12 := zin hb (by omega)
    have hd : dox (kd t) (fa t) (fb t) h p = if 0 < h (fa t) ∧ h (fb t) < 1000000000 then some (upn (upn h (fa t) (h (fa t) - 1)) (fb t) (h (fb t) + 1), p) else none := by rw [k0]; rfl
    rw [hd] at hok hno
    rw [eA_n (by omega), eB_n (by omega), zcl9 (by omega), zcl9 (by omega), xa, xb, nI_z (by omega), nI_eq (by omega) (by omega)]
    refine ⟨hv, fun h1 => ⟨rfl, hno (if_neg (by omega))⟩, fun h1 => ⟨hu, fun h2 => ⟨hv, hv, hu, hu, rfl, ?_⟩, fun h2 => ⟨rfl, hno (if_neg (by omega))⟩⟩⟩
    rw [zI_eq, upd_ne (Ne.symm hab), xb, nI_add, zsub1 (by omega)]
    exact hok _ (if_pos (by omega)) _ ((zJ.rf.I rfl).I rfl) (fun _ _ => rfl) (by rw [zI_eq, zI_eq]; exact (hH.put (by omega)).put (by omega)) (by rw [zI_ne _ _ (by omega), zI_ne _ _ (by omega)]; exact hP) (by rw [zI_ne _ _ (by omega), zI_ne _ _ (by omega), ej, nxk (by omega) (by omega) (by omega) (by omega)])
  · have k0 : kd t = 3 := nEq (by omega) (by omega) e
    have ha := hk2 (by omega)
    obtain ⟨hb, hab⟩ := hk6 (by omega) (by omega)
    obtain ⟨xa, ya⟩ := hH _ ha
    obtain ⟨xb, yb⟩ := hH _ hb
    have hv : vp_in (nI (fa t)) 12 := zin ha (by omega)
    have hu : vp_in (nI (fb t)) 12 := zin hb (by omega)
    have hd : dox (kd t) (fa t) (fb t) h p = if 0 < h (fa t) ∧ 0 < h (fb t) then some (upn (upn h (fa t) (h (fa t) - 1)) (fb t) (h (fb t) - 1), p) else none := by rw [k0]; rfl
    rw [hd] at hok hno
    rw [eA_n (by omega), eB_n (by omega), zcl9 (by omega), zcl9 (by omega), xa, xb, nI_z (by omega), nI_z (by omega)]
    refine ⟨hv, fun h1 => ⟨rfl, hno (if_neg (by omega))⟩, fun h1 => ⟨hu, fun h2 => ⟨hv, hv, hu, hu, rfl, ?_⟩, fun h2 => ⟨rfl, hno (if_neg (by omega))⟩⟩⟩
    rw [zI_eq, upd_ne (Ne.symm hab), xb, zsub1 (by omega), zsub1 (by omega)]
    exact hok _ (if_pos (by omega)) _ ((zJ.rf.I rfl).I rfl) (fun _ _ => rfl) (by rw [zI_eq, zI_eq]; exact (hH.put (by omega)).put (by omega)) (by rw [zI_ne _ _ (by omega), zI_ne _ _ (by omega)]; exact hP) (by rw [zI_ne _ _ (by omega), zI_ne _ _ (by omega), ej, nxk (by omega) (by omega) (by omega) (by omega)])
  · have k0 : kd t = 4 := nEq (by omega) (by omega) e
    have ha := hk2 (by omega)
    obtain ⟨xa, ya⟩ := hH _ ha
    have hx : nx (kd t) (fa t) (fb t) t h p = if h (fa t) = 0 then fb t else t + 1 := by rw [k0]; rfl
    rw [eA_n (by omega), eB_n (by omega), zcl9 (by omega), xa, nI_z (by omega)]
    exact ⟨zin ha (by omega), fun h1 => ⟨rfl, hok _ (dox_id (by omega)) _ zJ.rf (fun _ _ => rfl) hH hP (by rw [hx, if_neg h1]; exact ej)⟩, fun h1 => ⟨rfl, hok _ (dox_id (by omega)) _ (zJ.rf.I rfl) (fun j hj => by rw [zI_eq, upd_ne hj]) hH hP (by rw [hx, if_pos (Classical.not_not.mp h1), zI_eq, upd_self])⟩⟩
  · have k0 : kd t = 5 := nEq (by omega) (by omega) e
    have ha := hk3 (by omega) (by omega)
    obtain ⟨xa, ya⟩ := hP _ ha
    have hv : vp_in (nI (fa t)) 24 := zin ha (by omega)
    have hd : dox (kd t) (fa t) (fb t) h p = if p (fa t) < 3 then some (h, upn p (fa t) (p (fa t) + 1)) else none := by rw [k0]; rfl
    rw [hd] at hok hno
    rw [eA_n (by omega), zcl9 (by omega), xa, nI_eq (by omega) (by omega), nI_add]
    exact ⟨hv, fun h1 => ⟨hv, hv, rfl, hok _ (if_pos (by omega)) _ (zJ.rf.I rfl) (fun _ _ => rfl) (by rw [zI_ne _ _ (by omega)]; exact hH) (by rw [zI_eq]; exact hP.put (by omega)) (by rw [zI_ne _ _ (by omega), ej, nxk (by omega) (by omega) (by omega) (by omega)])⟩, fun h1 => ⟨rfl, hno (if_neg (by omega))⟩⟩
  · have k0 : kd t = 6 := nEq (by omega) (by omega) e
    have ha := hk3 (by omega) (by omega)
    obtain ⟨xa, ya⟩ := hP _ ha
    have hv : vp_in (nI (fa t)) 24 := zin ha (by omega)
    have hd : dox (kd t) (fa t) (fb t) h p = if 0 < p (fa t) then some (h, upn p (fa t) (p (fa t) - 1)) else none := by rw [k0]; rfl
    rw [hd] at hok hno
    rw [eA_n (by omega), zcl9 (by omega), xa, nI_z (by omega)]
    refine ⟨hv, fun h1 => ⟨hv, hv, rfl, ?_⟩, fun h1 => ⟨rfl, hno (if_neg (by omega))⟩⟩
    rw [zsub1 (by omega)]
    exact hok _ (if_pos (by omega)) _ (zJ.rf.I rfl) (fun _ _ => rfl) (by rw [zI_ne _ _ (by omega)]; exact hH) (by rw [zI_eq]; exact hP.put (by omega)) (by rw [zI_ne _ _ (by omega), ej, nxk (by omega) (by omega) (by omega) (by omega)])
  · have k0 : kd t = 7 := nEq (by omega) (by omega) e
    have ha := hk3 (by omega) (by omega)
    obtain ⟨xa, ya⟩ := hP _ ha
    have hx : nx (kd t) (fa t) (fb t) t h p = if p (fa t) = 0 then fb t else t + 1 := by rw [k0]; rfl
    rw [eA_n (by omega), eB_n (by omega), zcl9 (by omega), xa, nI_z (by omega)]
    exact ⟨zin ha (by omega), fun h1 => ⟨rfl, hok _ (dox_id (by omega)) _ zJ.rf (fun _ _ => rfl) hH hP (by rw [hx, if_neg h1]; exact ej)⟩, fun h1 => ⟨rfl, hok _ (dox_id (by omega)) _ (zJ.rf.I rfl) (fun j hj => by rw [zI_eq, upd_ne hj]) hH hP (by rw [hx, if_pos (Classical.not_not.mp h1), zI_eq, upd_self])⟩⟩
  · have k0 : kd t = 8 := nEq (by omega) (by omega) e
    have ha := hk3 (by omega) (by omega)
    obtain ⟨xa, ya⟩ := hP _ ha
    have hx : nx (kd t) (fa t) (fb t) t h p = if p (fa t) = 3 then fb t else t + 1 := by rw [k0]; rfl
    rw [eA_n (by omega), eB_n (by omega), zcl9 (by omega), xa, nI_eq (by omega) (by omega)]
    exact ⟨zin ha (by omega), fun h1 => ⟨rfl, hok _ (dox_id (by omega)) _ zJ.rf (fun _ _ => rfl) hH hP (by rw [hx, if_neg h1]; exact ej)⟩, fun h1 => ⟨rfl, hok _ (dox_id (by omega)) _ (zJ.rf.I rfl) (fun j hj => by rw [zI_eq, upd_ne hj]) hH hP (by rw [hx, if_pos (Classical.not_not.mp h1), zI_eq, upd_self])⟩⟩
  · have k0 : kd t = 9 := nEq (by omega) (by omega) e
    rw [eA_n (by omega)]
    exact ⟨rfl, hok _ (dox_id (by omega)) _ (zJ.rf.I rfl) (fun j hj => by rw [zI_eq, upd_ne hj]) hH hP (by rw [show nx (kd t) (fa t) (fb t) t h p = fa t by rw [k0]; rfl, zI_eq, upd_self])⟩
  · rw [nI_toInt (by omega)] at e
    exact ⟨rfl, hok _ (dox_id (by omega)) _ zJ.rf (fun _ _ => rfl) hH hP (by rw [ej, nxk (by omega) (by omega) (by omega) (by omega)])⟩
