/-! the Trials' runner (printed by wip/clone.py) -/
def jRv (S : ZSt) (r : (Nat → Nat) × (Nat → Nat) × Nat × Nat × Nat × Nat) : Prop := jN (zI S 113) 12 1000000000 r.1 ∧ jN (zI S 114) 24 3 r.2.1 ∧ zI S 111 3 = nI r.2.2.1 ∧ zI S 111 4 = nI r.2.2.2.1 ∧ zI S 111 5 = nI r.2.2.2.2.1 ∧ zI S 111 6 = nI r.2.2.2.2.2
theorem jRv.ext {S : ZSt} {h h' p p' : Nat → Nat} {x : Nat × Nat × Nat × Nat} (hr : jRv S (h, p, x)) (e : ∀ j, h' j = h j) (e' : ∀ j, p' j = p j) : jRv S (h', p', x) := ⟨hr.1.ext e, hr.2.1.ext e', hr.2.2⟩
theorem w_Rv_move {a b : Nat} {h : Nat → Nat} {S : ZSt} {Q : ZOut → ZSt → Prop} (hS : zSh S) (hH : jN (zI S 113) 12 1000000000 h) (ha : a < 12) (hb : b < 12) (hab : a ≠ b)
    (h1 : 0 < h a ∧ h b < 1000000000 → ∀ S', zJ [113, 114] S S' → zI S' 114 = zI S 114 → jN (zI S' 113) 12 1000000000 (upn (upn h a (h a - 1)) b (h b + 1)) → Q (.inl (some (.int (nI 1)))) S') (h2 : ¬ (0 < h a ∧ h b < 1000000000) → ∀ S', zJ [113, 114] S S' → zI S' 114 = zI S 114 → jN (zI S' 113) 12 1000000000 h → Q (.inl (some (.int (nI 0)))) S') : zC m_Ru_areChanged [.ref 111, .int (nI a), .int (nI b), .int (nI 1)] S Q := by
  have cH : zArr S 113 12 := zA_of hS rfl
  obtain ⟨ea, ba⟩ := hH a ha
  obtain ⟨eb, bb⟩ := hH b hb
  refine b_Rv_areChanged hS (w_Ru_dn hS cH (by omega) ha ea ba (by omega) (fun p1 => b_Rv_areChanged_6 hS ⟨fun _ => ?_, fun h9 => absurd (by decide) h9⟩) (fun p1 => b_Rv_areChanged_6 hS ⟨fun h9 => absurd (by decide) h9, fun _ => ⟨rfl, h2 (by omega) S zJ.rf rfl hH⟩⟩))
  have e1 : zI (zsI S 113 a (nI (h a - 1))) 113 b = nI (h b) := by
    rw [zI_eq, upd_ne (Ne.symm hab)]
    exact eb
  refine w_Ru_up (S := zsI S 113 a (nI (h a - 1))) hS (zA_of hS rfl) (by omega) hb e1 bb (by omega) (fun p2 => b_Rv_areChanged_15 hS ⟨fun h9 => absurd h9 (by decide), fun _ => ⟨rfl, h1 ⟨p1, p2⟩ _ ((zJ.rf.I rfl).I rfl) rfl ?_⟩⟩) (fun p2 => b_Rv_areChanged_15 hS ⟨fun _ => ?_, fun h9 => absurd (by decide) h9⟩)
  · rw [zI_eq, zI_eq]
    exact (hH.put (by omega)).put (by omega)
  · refine w_Ru_up (S := zsI S 113 a (nI (h a - 1))) (x := h a - 1) hS (zA_of hS rfl) (by omega) ha (by rw [zI_eq, upd_self]) (by omega) (by omega) (fun p3 => b_Rv_areChanged_24 hS ⟨rfl, h2 (by omega) _ ((zJ.rf.I rfl).I rfl) rfl ?_⟩) (fun p3 => by omega)
    rw [zI_eq, zI_eq]
    refine ((hH.put (i := a) (v := h a - 1) (by omega)).put (i := a) (v := h a - 1 + 1) (by omega)).ext (fun j => ?_)
    rw [show h a - 1 + 1 = h a by omega]
    by_cases e : j = a
    · rw [e, upn_self]
    · rw [upn_ne e, upn_ne e]
theorem w_Rv_pair {a b : Nat} {h : Nat → Nat} {S : ZSt} {Q : ZOut → ZSt → Prop} (hS : zSh S) (hH : jN (zI S 113) 12 1000000000 h) (ha : a < 12) (hb : b < 12) (hab : a ≠ b)
    (h1 : 0 < h a ∧ 0 < h b → ∀ S', zJ [113, 114] S S' → zI S' 114 = zI S 114 → jN (zI S' 113) 12 1000000000 (upn (upn h a (h a - 1)) b (h b - 1)) → Q (.inl (some (.int (nI 1)))) S') (h2 : ¬ (0 < h a ∧ 0 < h b) → ∀ S', zJ [113, 114] S S' → zI S' 114 = zI S 114 → jN (zI S' 113) 12 1000000000 h → Q (.inl (some (.int (nI 0)))) S') : zC m_Ru_areChanged [.ref 111, .int (nI a), .int (nI b), .int (- nI 1)] S Q := by
  have cH : zArr S 113 12 := zA_of hS rfl
  obtain ⟨ea, ba⟩ := hH a ha
  obtain ⟨eb, bb⟩ := hH b hb
  refine b_Rv_areChanged hS (w_Ru_dn hS cH (by omega) ha ea ba (by omega) (fun p1 => b_Rv_areChanged_6 hS ⟨fun _ => ?_, fun h9 => absurd (by decide) h9⟩) (fun p1 => b_Rv_areChanged_6 hS ⟨fun h9 => absurd (by decide) h9, fun _ => ⟨rfl, h2 (by omega) S zJ.rf rfl hH⟩⟩))
  have e1 : zI (zsI S 113 a (nI (h a - 1))) 113 b = nI (h b) := by
    rw [zI_eq, upd_ne (Ne.symm hab)]
    exact eb
  refine w_Ru_dn (S := zsI S 113 a (nI (h a - 1))) hS (zA_of hS rfl) (by omega) hb e1 bb (by omega) (fun p2 => b_Rv_areChanged_15 hS ⟨fun h9 => absurd h9 (by decide), fun _ => ⟨rfl, h1 ⟨p1, p2⟩ _ ((zJ.rf.I rfl).I rfl) rfl ?_⟩⟩) (fun p2 => b_Rv_areChanged_15 hS ⟨fun _ => ?_, fun h9 => absurd (by decide) h9⟩)
  · rw [zI_eq, zI_eq]
    exact (hH.put (by omega)).put (by omega)
  · refine w_Ru_up (S := zsI S 113 a (nI (h a - 1))) (x := h a - 1) hS (zA_of hS rfl) (by omega) ha (by rw [zI_eq, upd_self]) (by omega) (by omega) (fun p3 => b_Rv_areChanged_24 hS ⟨rfl, h2 (by omega) _ ((zJ.rf.I rfl).I rfl) rfl ?_⟩) (fun p3 => by omega)
    rw [zI_eq, zI_eq]
    refine ((hH.put (i := a) (v := h a - 1) (by omega)).put (i := a) (v := h a - 1 + 1) (by omega)).ext (fun j => ?_)
    rw [show h a - 1 + 1 = h a by omega]
    by_cases e : j = a
    · rw [e, upn_self]
    · rw [upn_ne e, upn_ne e]
theorem w_Rv_isDone {o ra rb rc n t : Nat} {kd fa fb : Nat → Nat} {h p : Nat → Nat} {S : ZSt} {Q : ZOut → ZSt → Prop} (hS : zSh S) (hW : zWy n kd fa fb) (hw : jWO S o ra rb rc n kd fa fb) (ht : t < n) (et : zI S 111 3 = nI t) (hH : jN (zI S 113) 12 1000000000 h) (hP : jN (zI S 114) 24 3 p)
    (hok : ∀ q, dox (kd t) (fa t) (fb t) h p = some q → ∀ S', zJ [113, 114] S S' → jN (zI S' 113) 12 1000000000 q.1 → jN (zI S' 114) 24 3 q.2 → Q (.inl (some (.int (nI 1)))) S')
    (hno : dox (kd t) (fa t) (fb t) h p = none → ∀ S', zJ [113, 114] S S' → jN (zI S' 113) 12 1000000000 h → jN (zI S' 114) 24 3 p → Q (.inl (some (.int (nI 0)))) S') : zC m_Ru_isDone [.ref 111, .ref o] S Q := by
  obtain ⟨hn0, hn, hk⟩ := hW
  obtain ⟨hk1, hk2, hk3, hk4, hk5, hk6, hk7⟩ := hk t ht
  obtain ⟨w1, w2, ⟨r1, r2, r3⟩, ⟨⟨c1, n1⟩, ⟨c2, n2⟩, ⟨c3, n3⟩⟩, w5⟩ := hw
  obtain ⟨k1, k2, k3⟩ := w5 t ht
  have cH : zArr S 113 12 := zA_of hS rfl
  have cP : zArr S 114 24 := zA_of hS rfl
  refine b_Rv_isDone hS ⟨w1, ?_⟩
  rw [et, w2, zsub1 hn0]
  refine w_N_isNot0 hS (nI_nlt (by omega) (by omega)) (nI_le (by omega) (by omega)) ?_
  refine b_Rv_isDone_8 hS ?_
  rw [et, zcl9 (by omega)]
  refine ⟨fun h9 => absurd (by decide) h9, fun _ => ⟨fun _ => ⟨w1, rb, r2, c2, by rw [n2]; exact zin (by omega) (by omega), w1, rc, r3, c3, by rw [n3]; exact zin (by omega) (by omega), w1, ra, r1, c1, by rw [n1]; exact zin (by omega) (by omega), ?_⟩, fun h9 => absurd (nI_lt (by omega) (by omega)) h9⟩⟩
  rw [k1, k2, k3]
  refine ⟨⟨fun e => ?_, fun e => ?_, fun e => ?_, fun e => ?_, fun e => ?_, fun e => ?_, fun e => ?_, trivial⟩, fun e => ?_⟩
  · have k0 : kd t = 0 := nEq (by omega) (by omega) e
    have ha := hk2 (by omega)
    rw [eA_n (by omega)]
    have hd : dox (kd t) (fa t) (fb t) h p = if h (fa t) < 1000000000 then some (upn h (fa t) (h (fa t) + 1), p) else none := by rw [k0]; rfl
    rw [hd] at hok hno
    exact w_Ru_up hS cH (by omega) ha (hH _ ha).1 (hH _ ha).2 (by omega) (fun h1 => b_Rv_isDone_39 hS ⟨rfl, hok _ (if_pos h1) _ (zJ.rf.I rfl) (by rw [zI_eq]; exact hH.put (by omega)) (by rw [zI_ne _ _ (by omega)]; exact hP)⟩) (fun h1 => b_Rv_isDone_39 hS ⟨rfl, hno (if_neg (by omega)) _ zJ.rf hH hP⟩)
  · have k0 : kd t = 1 := nEq (by omega) (by omega) e
    have ha := hk2 (by omega)
    rw [eA_n (by omega)]
    have hd : dox (kd t) (fa t) (fb t) h p = if 0 < h (fa t) then some (upn h (fa t) (h (fa t) - 1), p) else none := by rw [k0]; rfl
    rw [hd] at hok hno
    have hb := (hH _ ha).2
    exact w_Ru_dn hS cH (by omega) ha (hH _ ha).1 hb (by omega) (fun h1 => b_Rv_isDone_46 hS ⟨rfl, hok _ (if_pos h1) _ (zJ.rf.I rfl) (by rw [zI_eq]; exact hH.put (by omega)) (by rw [zI_ne _ _ (by omega)]; exact hP)⟩) (fun h1 => b_Rv_isDone_46 hS ⟨rfl, hno (if_neg (by omega)) _ zJ.rf hH hP⟩)
  · have k0 : kd t = 2 := nEq (by omega) (by omega) e
    have ha := hk2 (by omega)
    obtain ⟨hb, hab⟩ := hk6 (by omega) (by omega)
    rw [eA_n (by omega), eB_n (by omega)]
    have hd : dox (kd t) (fa t) (fb t) h p = if 0 < h (fa t) ∧ h (fb t) < 1000000000 then some (upn (upn h (fa t) (h (fa t) - 1)) (fb t) (h (fb t) + 1), p) else none := by rw [k0]; rfl
    rw [hd] at hok hno
    exact w_Rv_move hS hH ha hb hab (fun h1 S' j e9 hh => b_Rv_isDone_52 (j.sh hS) ⟨rfl, hok _ (if_pos h1) _ j hh (by rw [e9]; exact hP)⟩) (fun h1 S' j e9 hh => b_Rv_isDone_52 (j.sh hS) ⟨rfl, hno (if_neg h1) _ j hh (by rw [e9]; exact hP)⟩)
  · have k0 : kd t = 3 := nEq (by omega) (by omega) e
    have ha := hk2 (by omega)
    obtain ⟨hb, hab⟩ := hk6 (by omega) (by omega)
    rw [eA_n (by omega), eB_n (by omega)]
    have hd : dox (kd t) (fa t) (fb t) h p = if 0 < h (fa t) ∧ 0 < h (fb t) then some (upn (upn h (fa t) (h (fa t) - 1)) (fb t) (h (fb t) - 1), p) else none := by rw [k0]; rfl
    rw [hd] at hok hno
    exact w_Rv_pair hS hH ha hb hab (fun h1 S' j e9 hh => b_Rv_isDone_58 (j.sh hS) ⟨rfl, hok _ (if_pos h1) _ j hh (by rw [e9]; exact hP)⟩) (fun h1 S' j e9 hh => b_Rv_isDone_58 (j.sh hS) ⟨rfl, hno (if_neg h1) _ j hh (by rw [e9]; exact hP)⟩)
  · have k0 : kd t = 4 := nEq (by omega) (by omega) e
    exact ⟨rfl, hok _ (dox_id (by omega)) _ zJ.rf hH hP⟩
  · have k0 : kd t = 5 := nEq (by omega) (by omega) e
    have ha := hk3 (by omega) (by omega)
    rw [eA_n (by omega)]
    have hd : dox (kd t) (fa t) (fb t) h p = if p (fa t) < 3 then some (h, upn p (fa t) (p (fa t) + 1)) else none := by rw [k0]; rfl
    rw [hd] at hok hno
    exact w_Ru_up hS cP (by omega) ha (hP _ ha).1 (hP _ ha).2 (by omega) (fun h1 => b_Rv_isDone_65 hS ⟨rfl, hok _ (if_pos h1) _ (zJ.rf.I rfl) (by rw [zI_ne _ _ (by omega)]; exact hH) (by rw [zI_eq]; exact hP.put (by omega))⟩) (fun h1 => b_Rv_isDone_65 hS ⟨rfl, hno (if_neg (by omega)) _ zJ.rf hH hP⟩)
  · have k0 : kd t = 6 := nEq (by omega) (by omega) e
    have ha := hk3 (by omega) (by omega)
    rw [eA_n (by omega)]
    have hd : dox (kd t) (fa t) (fb t) h p = if 0 < p (fa t) then some (h, upn p (fa t) (p (fa t) - 1)) else none := by rw [k0]; rfl
    rw [hd] at hok hno
    have hb := (hP _ ha).2
    exact w_Ru_dn hS cP (by omega) ha (hP _ ha).1 hb (by omega) (fun h1 => b_Rv_isDone_72 hS ⟨rfl, hok _ (if_pos h1) _ (zJ.rf.I rfl) (by rw [zI_ne _ _ (by omega)]; exact hH) (by rw [zI_eq]; exact hP.put (by omega))⟩) (fun h1 => b_Rv_isDone_72 hS ⟨rfl, hno (if_neg (by omega)) _ zJ.rf hH hP⟩)
  · rw [nI_toInt (by omega)] at e
    exact ⟨rfl, hok _ (dox_id (by omega)) _ zJ.rf hH hP⟩
theorem w_Rv_ebl {o n t : Nat} {S : ZSt} {Q : ZOut → ZSt → Prop} (hS : zSh S) (w1 : zc S o = 9) (w2 : zI S o 3 = nI n) (hn : n ≤ 24) (et : zI S 111 3 = nI t) (ht : t ≤ 30) (ee : zI S 111 5 = nI 3)
    (hQ : ∀ S', zJ [111] S S' → (∀ j, j ≠ 5 → zI S' 111 j = zI S 111 j) → zI S' 111 5 = nI (if n ≤ t then 0 else 3) → Q (.inl none) S') : zC m_Ru_endBehindLast [.ref 111, .ref o] S Q := by
  refine b_Rv_endBehindLast hS ?_
  rw [ee, et, w2]
  refine ⟨fun h9 => absurd rfl h9, fun _ => ⟨w1, fun h9 => ?_, fun h9 => ?_⟩⟩
  · have h8 := (nI_ltI (by omega) (by omega)).mp h9
    refine hQ S zJ.rf (fun _ _ => rfl) ?_
    rw [if_neg (by omega)]
    exact ee
  · have h8 : n ≤ t := by
      by_cases h : n ≤ t
      · exact h
      · exact absurd (nI_lt (by omega) (by omega)) h9
    refine hQ _ (zJ.rf.I rfl) (fun j hj => by rw [zI_eq, upd_ne hj]) ?_
    rw [zI_eq, upd_self, if_pos h8]
theorem w_Rv_moveOn {o ra rb rc n t : Nat} {kd fa fb : Nat → Nat} {h p : Nat → Nat} {S : ZSt} {Q : ZOut → ZSt → Prop} (hS : zSh S) (hW : zWy n kd fa fb) (hw : jWO S o ra rb rc n kd fa fb) (no : o ≠ 111) (ht : t < n) (et : zI S 111 3 = nI t) (ee : zI S 111 5 = nI 3) (es : zI S 111 6 = nI 9) (hH : jN (zI S 113) 12 1000000000 h) (hP : jN (zI S 114) 24 3 p)
    (hQ : ∀ S', zJ [111] S S' → zI S' 111 4 = zI S 111 4 → zI S' 111 3 = nI (mvr n (kd t) (fa t) (fb t) t h p).1 → zI S' 111 5 = nI (mvr n (kd t) (fa t) (fb t) t h p).2.1 → zI S' 111 6 = nI (mvr n (kd t) (fa t) (fb t) t h p).2.2 → Q (.inl none) S') : zC m_Ru_moveOn [.ref 111, .ref o] S Q := by
  obtain ⟨hn0, hn, hk⟩ := hW
  obtain ⟨hk1, hk2, hk3, hk4, hk5, hk6, hk7⟩ := hk t ht
  obtain ⟨w1, w2, ⟨r1, r2, r3⟩, ⟨⟨c1, n1⟩, ⟨c2, n2⟩, ⟨c3, n3⟩⟩, w5⟩ := hw
  obtain ⟨k1, k2, k3⟩ := w5 t ht
  have cH : zArr S 113 12 := zA_of hS rfl
  have cP : zArr S 114 24 := zA_of hS rfl
  refine b_Rv_moveOn hS ?_
  rw [et]
  refine w_N_isNot0 hS (nI_nlt (by omega) (by omega)) (nI_le (by omega) (by omega)) ?_
  refine b_Rv_moveOn_5 hS ?_
  rw [et, zcl9 (by omega)]
  refine ⟨fun _ => ⟨w1, rb, r2, c2, by rw [n2]; exact zin (by omega) (by omega), w1, rc, r3, c3, by rw [n3]; exact zin (by omega) (by omega), w1, ra, r1, c1, by rw [n1]; exact zin (by omega) (by omega), ?_⟩, fun h9 => absurd (by decide) h9⟩
  rw [k1, k2, k3, nI_add]
  have fin : ∀ {x2 x3 : Int32} (t' : Nat), t' ≤ 30 → kd t ≤ 9 → nx (kd t) (fa t) (fb t) t h p = t' → zcl 3 m_Ru_moveOn m_Ru_endBehindLast 216 93 [some (.ref 111), some (.ref o), some (.int x2), some (.int x3)] [] [.ref 111, .ref o] (zsI S 111 3 (nI t')) Q := fun {x2 x3} t' h1 h2 h3 => by
    have em : mvr n (kd t) (fa t) (fb t) t h p = (t', if n ≤ t' then 0 else 3, 9) := by
      unfold mvr
      rw [if_neg (by omega), if_neg (by omega), h3]
    rw [em] at hQ
    refine w_Rv_ebl (S := zsI S 111 3 (nI t')) (t := t') hS w1 (by rw [zI_ne _ _ no]; exact w2) hn (by rw [zI_eq, upd_self]) h1 (by rw [zI_eq, upd_ne (by omega)]; exact ee) (fun S' j1 j2 j3 => b_Rv_moveOn_94 (j1.sh hS) (hQ S' ((zJ.rf.I rfl).tr j1) ?_ ?_ j3 ?_))
    · rw [j2 4 (by omega), zI_eq, upd_ne (by omega)]
    · rw [j2 3 (by omega), zI_eq, upd_self]
    · rw [j2 6 (by omega), zI_eq, upd_ne (by omega)]
      exact es
  have nd : 4 ≠ kd t → 7 ≠ kd t → 8 ≠ kd t → 9 ≠ kd t → nx (kd t) (fa t) (fb t) t h p = t + 1 := fun a b c d => by
    unfold nx
    rw [if_neg (Ne.symm a), if_neg (Ne.symm b), if_neg (Ne.symm c), if_neg (Ne.symm d)]
  refine ⟨⟨fun e => ?_, fun e => ?_, fun e => ?_, fun e => ?_, fun e => ?_, fun e => ?_, fun e => ?_, fun e => ?_, trivial⟩, fun e => ?_⟩
  · have k0 : kd t = 4 := nEq (by omega) (by omega) e
    have ha := hk2 (by omega)
    have hb := hk7 (by omega)
    rw [eA_n (by omega), eB_n (by omega)]
    refine w_Ru_has hS cH (by omega) ha (hH _ ha).1 (hH _ ha).2 (by omega) (b_Rv_moveOn_31 hS ?_)
    have hx : nx (kd t) (fa t) (fb t) t h p = if h (fa t) = 0 then fb t else t + 1 := by rw [k0]; rfl
    rw [et, nI_add]
    by_cases h0 : h (fa t) = 0
    · rw [if_pos h0] at hx ⊢
      exact ⟨fun h9 => absurd h9 (by decide), fun _ => fin _ (by omega) (by omega) hx⟩
    · rw [if_neg h0] at hx ⊢
      exact ⟨fun _ => fin _ (by omega) (by omega) hx, fun h9 => absurd (by decide) h9⟩
  · have k0 : kd t = 5 := nEq (by omega) (by omega) e
    exact fin _ (by omega) (by omega) (nd (by omega) (by omega) (by omega) (by omega))
  · have k0 : kd t = 6 := nEq (by omega) (by omega) e
    exact fin _ (by omega) (by omega) (nd (by omega) (by omega) (by omega) (by omega))
  · have k0 : kd t = 7 := nEq (by omega) (by omega) e
    have ha := hk3 (by omega) (by omega)
    have hb := hk7 (by omega)
    have hpb := (hP _ ha).2
    rw [eA_n (by omega), eB_n (by omega)]
    refine w_Ru_has hS cP (by omega) ha (hP _ ha).1 (by omega) (by omega) (b_Rv_moveOn_46 hS ?_)
    have hx : nx (kd t) (fa t) (fb t) t h p = if p (fa t) = 0 then fb t else t + 1 := by rw [k0]; rfl
    rw [et, nI_add]
    by_cases h0 : p (fa t) = 0
    · rw [if_pos h0] at hx ⊢
      exact ⟨fun h9 => absurd h9 (by decide), fun _ => fin _ (by omega) (by omega) hx⟩
    · rw [if_neg h0] at hx ⊢
      exact ⟨fun _ => fin _ (by omega) (by omega) hx, fun h9 => absurd (by decide) h9⟩
  · have k0 : kd t = 8 := nEq (by omega) (by omega) e
    have ha := hk3 (by omega) (by omega)
    have hb := hk7 (by omega)
    have hpb := (hP _ ha).2
    rw [eA_n (by omega), eB_n (by omega)]
    refine w_Ru_has hS cP (by omega) ha (hP _ ha).1 (by omega) (by omega) (b_Rv_moveOn_61 hS ?_)
    have hx : nx (kd t) (fa t) (fb t) t h p = if p (fa t) = 3 then fb t else t + 1 := by rw [k0]; rfl
    rw [et, nI_add]
    by_cases h0 : p (fa t) = 3
    · rw [if_pos h0] at hx ⊢
      exact ⟨fun h9 => absurd h9 (by decide), fun _ => fin _ (by omega) (by omega) hx⟩
    · rw [if_neg h0] at hx ⊢
      exact ⟨fun _ => fin _ (by omega) (by omega) hx, fun h9 => absurd (by decide) h9⟩
  · have k0 : kd t = 9 := nEq (by omega) (by omega) e
    have ha := hk4 (by omega)
    rw [eA_n (by omega)]
    exact fin _ (by omega) (by omega) (by rw [k0]; rfl)
  · have k0 : kd t = 10 := nEq (by omega) (by omega) e
    have ha := hk5 (by omega)
    rw [eA_n (by omega)]
    have em : mvr n (kd t) (fa t) (fb t) t h p = (t, 1, fa t) := by
      unfold mvr
      rw [if_pos k0]
    rw [em] at hQ
    refine b_Rv_endBehindLast (S := zsI (zsI S 111 6 (nI (fa t))) 111 5 (nI 1)) hS ⟨fun _ => b_Rv_moveOn_94 hS (hQ _ ((zJ.rf.I rfl).I rfl) rfl ?_ rfl rfl), fun h9 => absurd (by rw [zI_eq, upd_self]; decide) h9⟩
    exact et
  · have k0 : kd t = 11 := nEq (by omega) (by omega) e
    have em : mvr n (kd t) (fa t) (fb t) t h p = (t, 0, 9) := by
      unfold mvr
      rw [if_neg (by omega), if_pos k0]
    rw [em] at hQ
    exact b_Rv_endBehindLast (S := zsI S 111 5 (nI 0)) hS ⟨fun _ => b_Rv_moveOn_94 hS (hQ _ (zJ.rf.I rfl) rfl et rfl es), fun h9 => absurd (by rw [zI_eq, upd_self]; decide) h9⟩
  · rw [nI_toInt (by omega)] at e
    exact fin _ (by omega) (by omega) (nd (by omega) (by omega) (by omega) (by omega))
theorem w_Rv_follow_end {o lim i e : Nat} {S : ZSt} {Q : ZOut → ZSt → Prop} (hS : zSh S) (ee : zI S 111 5 = nI e) (he : e < 3) (h : Q (.inl none) S) : zW 4 m_Ru_follow 2 [some (.ref 111), some (.ref o), some (.int (nI lim)), some (.int (nI i))] [] S Q := by
  refine b_Rv_follow_2 hS ⟨fun _ => h, fun _ => ⟨fun _ => h, fun h9 => absurd ?_ h9⟩⟩
  rw [ee, nI_eq (by omega) (by omega)]
  omega
theorem w_Rv_follow_2 {o ra rb rc n : Nat} {kd fa fb : Nat → Nat} (hW : zWy n kd fa fb) (n0 : zNo [111, 113, 114] o) (n1 : zNo [111, 113, 114] ra) (n2 : zNo [111, 113, 114] rb) (n3 : zNo [111, 113, 114] rc) :
    ∀ (f i m t lim : Nat) (h p : Nat → Nat) {S : ZSt} {Q : ZOut → ZSt → Prop}, zSh S → jWO S o ra rb rc n kd fa fb → f + i = lim → lim ≤ 4000 → t < n → jRv S (h, p, t, m, 3, 9) → (∀ S', zJ [111, 113, 114] S S' → jRv S' (go n kd fa fb f h p t m) → Q (.inl none) S') →
    zW 4 m_Ru_follow 2 [some (.ref 111), some (.ref o), some (.int (nI lim)), some (.int (nI i))] [] S Q
  | 0, i, m, t, lim, h, p, S, Q, hS, hw, hf, hl, ht, hr, hQ => by
    exact b_Rv_follow_2 hS (pk_le lim i (fun _ => hQ S zJ.rf hr) (fun h9 => by omega))
  | f + 1, i, m, t, lim, h, p, S, Q, hS, hw, hf, hl, ht, hr, hQ => by
    obtain ⟨hH, hP, e3, e4, e5, e6⟩ := hr
    refine b_Rv_follow_2 hS (pk_le lim i (fun h9 => by omega) (fun h9 => ⟨fun h8 => absurd e5 h8, fun _ => ?_⟩))
    refine w_Rv_isDone hS hW hw ht e3 hH hP (fun q hq S1 j1 hh hp => ?_) (fun hq S1 j1 hh hp => ?_)
    · have c106 : zI S1 111 = zI S 111 := j1.2 111 rfl
      have j1' : zJ [111, 113, 114] S S1 := zJ3 j1 (fun c hc => (zmemN hc).2)
      refine b_Rv_follow_12 (j1.sh hS) ⟨fun h9 => absurd h9 (by decide), fun _ => ?_⟩
      rw [c106, e4, nI_add]
      have jm : zJ [111, 113, 114] S (zsI S1 111 4 (nI (m + 1))) := j1'.I rfl
      refine w_Rv_moveOn (S := zsI S1 111 4 (nI (m + 1))) (h := q.1) (p := q.2) (t := t) (j1.sh hS) hW (hw.J jm n0 n1 n2 n3) (fun e => by rw [e] at n0; cases n0) ht ?_ ?_ ?_ hh hp (fun S2 j2 x4 x3 x5 x6 => b_Rv_follow_22 (j2.sh (j1.sh hS)) ?_)
      · rw [zI_eq, upd_ne (by omega), c106]
        exact e3
      · rw [zI_eq, upd_ne (by omega), c106]
        exact e5
      · rw [zI_eq, upd_ne (by omega), c106]
        exact e6
      · have j2' : zJ [111, 113, 114] S S2 := jm.tr (zJ3 j2 (fun c hc => zmemC (zmemN hc).1 rfl))
        have hh2 : jN (zI S2 113) 12 1000000000 q.1 := by
          rw [j2.2 113 rfl, zI_ne _ _ (by omega)]
          exact hh
        have hp2 : jN (zI S2 114) 24 3 q.2 := by
          rw [j2.2 114 rfl, zI_ne _ _ (by omega)]
          exact hp
        have x4' : zI S2 111 4 = nI (m + 1) := by
          rw [x4, zI_eq, upd_self]
        rw [nI_add]
        rw [go_s hq] at hQ
        rcases mvr_c (n := n) (b := fb t) (t := t) (h := q.1) (p := q.2) (hW.2.2 t ht).2.2.2.2.1 with ⟨y1, y2, y3⟩ | y1
        · rw [if_pos y1] at hQ
          rw [y1] at x5
          rw [y3] at x6
          exact w_Rv_follow_2 hW n0 n1 n2 n3 f (i + 1) (m + 1) _ lim q.1 q.2 (j2'.sh hS) (hw.J j2' n0 n1 n2 n3) (by omega) hl y2 ⟨hh2, hp2, x3, x4', x5, x6⟩ (fun S' j hr => hQ S' (j2'.tr j) hr)
        · rw [if_neg (by omega)] at hQ
          exact w_Rv_follow_end (j2'.sh hS) x5 y1 (hQ S2 j2' ⟨hh2, hp2, x3, x4', x5, x6⟩)
    · have c106 : zI S1 111 = zI S 111 := j1.2 111 rfl
      have j1' : zJ [111, 113, 114] S S1 := zJ3 j1 (fun c hc => (zmemN hc).2)
      refine b_Rv_follow_12 (j1.sh hS) ⟨fun _ => ?_, fun h9 => absurd (by decide) h9⟩
      rw [nI_add]
      rw [go_n hq] at hQ
      refine w_Rv_follow_end (e := 2) (j1.sh hS) (by rw [zI_eq, upd_self]) (by omega) (hQ _ (j1'.I rfl) ⟨hh, hp, ?_, ?_, ?_, ?_⟩)
      · rw [zI_eq, upd_ne (by omega), c106]
        exact e3
      · rw [zI_eq, upd_ne (by omega), c106]
        exact e4
      · rw [zI_eq, upd_self]
      · rw [zI_eq, upd_ne (by omega), c106]
        exact e6
theorem w_Rv_follow {o ra rb rc n : Nat} {kd fa fb : Nat → Nat} (hW : zWy n kd fa fb) (n0 : zNo [111, 113, 114] o) (n1 : zNo [111, 113, 114] ra) (n2 : zNo [111, 113, 114] rb) (n3 : zNo [111, 113, 114] rc) {m t lim : Nat} {h p : Nat → Nat} {S : ZSt} {Q : ZOut → ZSt → Prop} (hS : zSh S) (hw : jWO S o ra rb rc n kd fa fb) (hl : lim ≤ 4000) (ht : t < n) (hr : jRv S (h, p, t, m, 3, 9)) (hQ : ∀ S', zJ [111, 113, 114] S S' → jRv S' (go n kd fa fb lim h p t m) → Q (.inl none) S') : zC m_Ru_follow [.ref 111, .ref o, .int (nI lim)] S Q :=
  b_Rv_follow hS (w_Rv_follow_2 hW n0 n1 n2 n3 lim 0 m t lim h p hS hw (by omega) hl ht hr hQ)
theorem w_Rv_begin {h p : Nat → Nat} {S : ZSt} {Q : ZOut → ZSt → Prop} (hS : zSh S) (hH : jN (zI S 112) 12 1000000000 h) (hP : jN (zI S 114) 24 3 p) (hQ : ∀ S', zJ [111, 113] S S' → jRv S' (h, p, 0, 0, 3, 9) → Q (.inl none) S') : zC m_Ru_begin [.ref 111] S Q := by
  refine b_Rv_begin hS ?_
  obtain ⟨c107, n107⟩ := zA_of hS (c := 112) (n := 12) rfl
  obtain ⟨c108, n108⟩ := zA_of hS (c := 113) (n := 12) rfl
  rw [cl0, cl12]
  refine ⟨c107, c108, by decide, by decide, by decide, (by show 0 + 12 ≤ zn S 112; rw [n107]; decide), (by show 0 + 12 ≤ zn S 113; rw [n108]; decide), hQ _ (((((zJ.rf.W rfl).I rfl).I rfl).I rfl).I rfl) ⟨fun j hj => ?_, hP, ?_, ?_, ?_, ?_⟩⟩
  · show va_cpy (zI S 112) (zI S 113) 0 0 12 j = _ ∧ _
    rw [pk_cpy_in (by omega) (by omega), show 0 + (j - 0) = j by omega]
    exact hH j hj
  · rw [zI_o (by omega), zI_o (by omega), zI_o (by omega), zI_s]
  · rw [zI_o (by omega), zI_o (by omega), zI_s]
  · rw [zI_o (by omega), zI_s]
  · rw [zI_s]
theorem w_Rv_sS_22 {b m i : Nat} (hb : 1 ≤ b ∧ b ≤ 10) (hm : m ≤ 12) (hi : i < 2 ^ 31) {x1 x2 x3 : Int32} : ∀ (k : Nat) {S : ZSt} {Q : ZOut → ZSt → Prop}, zSh S → k ≤ m → (∀ j, j < 12 → zI S 112 j = nI (if k ≤ j then dgt b m i j else 0)) → jN (zI S 114) 24 3 z0 → (∀ S', zJ [111, 112, 113, 114] S S' → jN (zI S' 112) 12 1000000000 (dgt b m i) → jRv S' (dgt b m i, z0, 0, 0, 3, 9) → Q (.inl none) S') → zW 2 m_Ru_startSmall 22 [some (.ref 111), some (.int x1), some (.int x2), some (.int x3), some (.int (nI b)), some (.int (nI (i / b ^ (m - k)))), some (.int (nI k - nI 1))] [] S Q
  | 0, S, Q, hS, hk, h7, h9, hQ => by
    have hN : jN (zI S 112) 12 1000000000 (dgt b m i) := fun j hj => ⟨by rw [h7 j hj, if_pos (by omega)], by have := dgt_le (m := m) (i := i) (j := j) hb; omega⟩
    refine b_Rv_startSmall_22 hS ⟨fun _ => w_Rv_begin hS hN h9 (fun S1 j1 r1 => b_Rv_startSmall_39 (j1.sh hS) (hQ S1 (zJ3 j1 (zsub_of rfl)) (by rw [j1.2 112 rfl]; exact hN) r1)), fun h8 => absurd (by decide) h8⟩
  | k + 1, S, Q, hS, hk, h7, h9, hQ => by
    have hq : i / b ^ (m - (k + 1)) < 2 ^ 31 := Nat.lt_of_le_of_lt (Nat.div_le_self _ _) hi
    rw [zsub1 (by omega), show k + 1 - 1 = k by omega]
    refine b_Rv_startSmall_22 hS ⟨fun h8 => absurd h8 (nI_pos (by omega)), fun _ => ⟨nI_ne0 (by omega) (by omega), zin (by omega) (by omega), nI_ne0 (by omega) (by omega), ?_⟩⟩
    rw [zrem hq (by omega) (by omega), pk_div hq (by omega) (by omega), ddiv, zcl9 (by omega), ← Int32.sub_eq_add_neg, show m - (k + 1) + 1 = m - k by omega]
    have j : zJ [111, 112, 113, 114] S (zsI S 112 k (nI (i / b ^ (m - (k + 1)) % b))) := zJ.rf.I rfl
    refine w_Rv_sS_22 hb hm hi k hS (by omega) (fun j hj => ?_) h9 (fun S' j' => hQ S' (j.tr j'))
    rw [zI_eq, zupd]
    by_cases e : j = k
    · rw [if_pos e, if_pos (by omega), e]
      unfold dgt
      rw [if_pos (by omega), show m - 1 - k = m - (k + 1) by omega]
    · rw [if_neg e, h7 j hj]
      by_cases e2 : k ≤ j
      · rw [if_pos e2, if_pos (by omega)]
      · rw [if_neg e2, if_neg (by omega)]
theorem w_Rv_startSmall {i m n : Nat} (hm : 1 ≤ m ∧ m ≤ 12) (hn : n ≤ 9) (hi : i < 2 ^ 31) {S : ZSt} {Q : ZOut → ZSt → Prop} (hS : zSh S) (hQ : ∀ S', zJ [111, 112, 113, 114] S S' → jN (zI S' 112) 12 1000000000 (dgt (n + 1) m i) → jRv S' (dgt (n + 1) m i, z0, 0, 0, 3, 9) → Q (.inl none) S') : zC m_Ru_startSmall [.ref 111, .int (nI i), .int (nI m), .int (nI n)] S Q := by
  refine b_Rv_startSmall hS (w_JA_fill hS (zA_of hS (c := 112) (n := 12) rfl) (by omega) (fun S1 j1 f1 => b_Rv_startSmall_4 (j1.sh hS) ?_))
  have hS1 := j1.sh hS
  refine w_JA_fill hS1 (zA_of hS1 (c := 114) (n := 24) rfl) (by omega) (fun S2 j2 f2 => b_Rv_startSmall_8 (j2.sh hS1) ?_)
  have hS2 := j2.sh hS1
  have j12 : zJ [111, 112, 113, 114] S S2 := (zJ3 j1 (zsub_of rfl)).tr (zJ3 j2 (zsub_of rfl))
  have eb : (if nI 1 < nI n + nI 1 then nI n + nI 1 else nI 1) = nI (n + 1) := by
    rw [nI_add]
    by_cases h : n = 0
    · subst h
      rfl
    · rw [if_pos (nI_lt (by omega) (by omega))]
  have em : (if nI 12 < nI m then nI 12 else nI m) = nI m := if_neg (nI_nlt (by omega) (by omega))
  rw [eb, em]
  have e0 : nI i = nI (i / (n + 1) ^ (m - m)) := by
    rw [Nat.sub_self, Nat.pow_zero, Nat.div_one]
  have key := w_Rv_sS_22 (b := n + 1) (m := m) (i := i) (x1 := nI i) (x2 := nI m) (x3 := nI n) (by omega) hm.2 hi m (S := S2) (Q := Q) hS2 (Nat.le_refl _) (fun j hj => ?_) (z0_N f2) (fun S' j' => hQ S' (j12.tr j'))
  · rw [← e0] at key
    exact key
  · rw [j2.2 112 rfl, f1 j hj]
    split
    · rw [dgt_out (by assumption)]
    · rfl
/-- what a task may look at -/
def jEv (S : ZSt) (w h p : Nat → Nat) (sd : Nat) : Prop := jN (zI S 112) 12 1000000000 w ∧ jN (zI S 113) 12 1000000000 h ∧ jN (zI S 114) 24 3 p ∧ zI S 111 6 = nI sd
theorem w_Tv_valueOf {w h p : Nat → Nat} {sd c v : Nat} {S : ZSt} {Q : ZOut → ZSt → Prop} (hS : zSh S) (hE : jEv S w h p sd) (hc : c ≤ 4) (hv : vok c v) (hQ : Q (.inl (some (.int (vl w h p sd c v)))) S) : zC m_Tk_valueOf [.int (nI c), .int (nI v), .ref 111] S Q := by
  obtain ⟨e1, e2, e3, e4⟩ := hE
  obtain ⟨v1, v2, v3⟩ := hv
  have hcl : (nI v).toNatClampNeg = v := zcl9 (by omega)
  refine b_Tv_valueOf hS ⟨⟨fun e => ?_, fun e => ?_, fun e => ?_, fun e => ?_, trivial⟩, fun e => ?_⟩
  · obtain rfl : c = 1 := nEq (by omega) (by omega) e
    have hb := v2 (by omega)
    refine w_N_isNot0 hS (nI_nlt (by omega) (by omega)) (nI_le (by omega) (by omega)) (b_Tv_valueOf_6 hS ⟨fun _ => ⟨zin hb (by omega), ?_⟩, fun h9 => absurd (by decide) h9⟩)
    rw [hcl, (e1 v hb).1]
    exact hQ
  · obtain rfl : c = 2 := nEq (by omega) (by omega) e
    have hb := v2 (by omega)
    refine w_N_isNot0 hS (nI_nlt (by omega) (by omega)) (nI_le (by omega) (by omega)) (b_Tv_valueOf_18 hS ⟨fun _ => ⟨zin hb (by omega), ?_⟩, fun h9 => absurd (by decide) h9⟩)
    rw [hcl, (e2 v hb).1]
    exact hQ
  · obtain rfl : c = 3 := nEq (by omega) (by omega) e
    have hb := v3 (by omega)
    refine w_N_isNot0 hS (nI_nlt (by omega) (by omega)) (nI_le (by omega) (by omega)) (b_Tv_valueOf_30 hS ⟨fun _ => ⟨zin hb (by omega), ?_⟩, fun h9 => absurd (by decide) h9⟩)
    rw [hcl, (e3 v hb).1]
    exact hQ
  · obtain rfl : c = 4 := nEq (by omega) (by omega) e
    rw [e4]
    exact hQ
  · rw [nI_toInt (by omega)] at e
    obtain rfl : c = 0 := by omega
    exact hQ
theorem w_Tv_isTrueOf_4 {o2 ra rb rs N : Nat} {w h p : Nat → Nat} {sd : Nat} (hN : N ≤ 400) (h1 : rs ≠ ra) (h2 : rs ≠ rb) (h3 : zNo [111, 112, 113, 114] rs) : ∀ (l : List (Nat × Nat)) (i : Nat) (st : List Int32) {u4 : Option Value} {S : ZSt} {Q : ZOut → ZSt → Prop}, zSh S → zc S o2 = 5 → (zR S o2 0 = some ra ∧ zR S o2 1 = some rb ∧ zR S o2 2 = some rs) → (zArr S ra N ∧ zArr S rb N ∧ zArr S rs 32) → pat (zI S ra) (zI S rb) i l → i + l.length = N → st.length ≤ 32 → wfC l st.length → stk (zI S rs) st → jEv S w h p sd → (∀ S', zJ [rs] S S' → Q (.inl (some (.int (zBo (evC (vl w h p sd) l st))))) S') →
    zW 3 m_Tk_isTrueOf 4 [some (.ref o2), some (.ref 111), some (.int (nI st.length)), some (.int (nI i)), u4] [] S Q
  | [], i, st, u4, S, Q, hS, co, ⟨r0, r1, r2⟩, ⟨⟨ca, na⟩, ⟨cb, nb⟩, ⟨cs, ns⟩⟩, hp, hi, hs, hf, hk, hE, hQ => by
    have hi' : i = N := by simpa using hi
    refine b_Tv_isTrueOf_4 hS ⟨co, ra, r0, ca, ?_⟩
    rw [na, hi']
    exact ⟨fun _ => ⟨rfl, hQ S zJ.rf⟩, fun h9 => absurd (nI_le (Nat.le_refl _) (by omega)) h9⟩
  | (c, v) :: l, i, st, u4, S, Q, hS, co, ⟨r0, r1, r2⟩, ⟨⟨ca, na⟩, ⟨cb, nb⟩, ⟨cs, ns⟩⟩, hp, hi, hs, hf, hk, hE, hQ => by
    obtain ⟨pa, pb, pr⟩ := hp
    obtain ⟨hc15, hf⟩ := hf
    have hi' : i + (l.length + 1) = N := hi
    have aS : ∀ {S' : ZSt}, zJ [rs] S S' → (zArr S' ra N ∧ zArr S' rb N ∧ zArr S' rs 32) ∧ zc S' o2 = 5 ∧ (zR S' o2 0 = some ra ∧ zR S' o2 1 = some rb ∧ zR S' o2 2 = some rs) ∧ pat (zI S' ra) (zI S' rb) (i + 1) l ∧ jEv S' w h p sd := fun {S'} j => by
      refine ⟨?_, ?_, ?_, ?_, ?_⟩
      · unfold zArr zc zn
        rw [j.1]
        exact ⟨⟨ca, na⟩, ⟨cb, nb⟩, ⟨cs, ns⟩⟩
      · unfold zc
        rw [j.1]
        exact co
      · unfold zR
        rw [j.1]
        exact ⟨r0, r1, r2⟩
      · rw [j.2 ra (zmemC (Ne.symm h1) rfl), j.2 rb (zmemC (Ne.symm h2) rfl)]
        exact pr
      · obtain ⟨m1, m⟩ := zmemN h3
        obtain ⟨m2, m⟩ := zmemN m
        obtain ⟨m3, m⟩ := zmemN m
        obtain ⟨m4, m⟩ := zmemN m
        unfold jEv
        rw [j.2 111 (zmemC (Ne.symm m1) rfl), j.2 112 (zmemC (Ne.symm m2) rfl), j.2 113 (zmemC (Ne.symm m3) rfl), j.2 114 (zmemC (Ne.symm m4) rfl)]
        exact hE
    have hci : (nI i).toNatClampNeg = i := zcl9 (by omega)
    have via : vp_in (nI i) N := zin (by omega) (by omega)
    refine b_Tv_isTrueOf_4 hS ⟨co, ra, r0, ca, ?_⟩
    rw [na]
    refine ⟨fun h9 => absurd h9 (nI_ge (by omega) (by omega)), fun _ => ⟨co, rb, r1, cb, ?_⟩⟩
    rw [nb]
    refine ⟨fun h9 => absurd h9 (nI_ge (by omega) (by omega)), fun _ => ⟨co, ra, r0, ca, by rw [na]; exact via, ?_⟩⟩
    rw [hci, pa]
    by_cases h4 : c ≤ 4
    · rw [if_pos h4] at hf
      obtain ⟨g1, g2, g3⟩ := hf
      have ev : evC (vl w h p sd) ((c, v) :: l) st = evC (vl w h p sd) l (vl w h p sd c v :: st) := by
        exact evC_v h4
      rw [ev] at hQ
      refine ⟨fun h9 => absurd h9 (nI_nlt h4 (by omega)), fun _ => ⟨fun _ => ⟨co, rs, r2, co, rb, r1, cb, by rw [nb]; exact via, ?_⟩, fun h9 => absurd (nI_lt g1 (by omega)) h9⟩⟩
      rw [pb]
      refine w_Tv_valueOf hS hE h4 g2 (b_Tv_isTrueOf_37 hS ⟨cs, by rw [ns]; exact zin g1 (by omega), ?_⟩)
      rw [zcl9 (by omega), nI_add, nI_add]
      have j : zJ [rs] S (zsI S rs st.length (vl w h p sd c v)) := zJ.rf.I (by show (Nat.beq rs rs || false) = true; rw [Nat.beq_refl]; rfl)
      obtain ⟨y1, y2, y3, y4, y5⟩ := aS j
      exact w_Tv_isTrueOf_4 hN h1 h2 h3 l (i + 1) (vl w h p sd c v :: st) hS y2 y3 y1 y4 (by omega) (by show st.length + 1 ≤ 32; omega) g3 (by rw [zI_eq]; exact stk_push hk) y5 (fun S' j' => hQ S' (j.tr j'))
    · rw [if_neg h4] at hf
      refine ⟨fun _ => ?_, fun h9 => absurd (nI_lt (by omega) (by omega)) h9⟩
      by_cases h14 : c < 14
      · rw [if_pos h14] at hf
        obtain ⟨g1, g2⟩ := hf
        refine ⟨fun h9 => absurd h9 (nI_ge (by omega) (by omega)), fun _ => ⟨fun _ => ?_, fun h9 => absurd (nI_le g1 (by omega)) h9⟩⟩
        match st, hs, g1, g2, hk, hQ with
        | b :: a :: s, hs, g1, g2, hk, hQ =>
          obtain ⟨k1, k2, k3⟩ := hk
          have hs' : s.length + 1 + 1 ≤ 32 := hs
          have ev : evC (vl w h p sd) ((c, v) :: l) (b :: a :: s) = evC (vl w h p sd) l (wk c a b :: s) := by
            exact evC_w h4 h14
          rw [ev] at hQ
          have n1 : nI (b :: a :: s).length + - nI 1 = nI (s.length + 1) := nI_dn (by show 0 < s.length + 1 + 1; omega)
          have n2 : nI (s.length + 1) - nI 1 = nI s.length := zsub1 (by omega)
          rw [n1, n2]
          refine ⟨co, rs, r2, co, rs, r2, cs, by rw [ns]; exact zin (by omega) (by omega), co, rs, r2, cs, by rw [ns]; exact zin (by omega) (by omega), ?_⟩
          rw [zcl9 (by omega), zcl9 (by omega), k2, show zI S rs (s.length + 1) = b from k1]
          refine w_Tk_worked hS (by omega) (b_Tv_isTrueOf_66 hS ⟨cs, by rw [ns]; exact zin (by omega) (by omega), ?_⟩)
          rw [zcl9 (by omega), nI_add]
          have j : zJ [rs] S (zsI S rs s.length (wk c a b)) := zJ.rf.I (by show (Nat.beq rs rs || false) = true; rw [Nat.beq_refl]; rfl)
          obtain ⟨y1, y2, y3, y4, y5⟩ := aS j
          exact w_Tv_isTrueOf_4 hN h1 h2 h3 l (i + 1) (wk c a b :: s) hS y2 y3 y1 y4 (by omega) (by show s.length + 1 ≤ 32; omega) g2 (by rw [zI_eq]; exact stk_push k3) y5 (fun S' j' => hQ S' (j.tr j'))
        | [], hs, g1, g2, hk, hQ => exact absurd g1 (by show ¬ 2 ≤ 0; omega)
        | [x], hs, g1, g2, hk, hQ => exact absurd g1 (by show ¬ 2 ≤ 1; omega)
      · rw [if_neg h14] at hf
        refine ⟨fun _ => ?_, fun h9 => absurd (nI_le (by omega) (by omega)) h9⟩
        have g1 : 1 ≤ st.length := by
          by_cases e : c = 14
          · rw [if_pos e] at hf
            exact hf.1
          · rw [if_neg e] at hf
            exact hf.1
        refine ⟨fun _ => ?_, fun h9 => absurd (nI_le g1 (by omega)) h9⟩
        match st, hs, g1, hf, hk, hQ with
        | [], hs, g1, hf, hk, hQ => exact absurd g1 (by show ¬ 1 ≤ 0; omega)
        | a :: s, hs, g1, hf, hk, hQ =>
          obtain ⟨k1, k2⟩ := hk
          have hs' : s.length + 1 ≤ 32 := hs
          have n1 : nI (a :: s).length + - nI 1 = nI s.length := nI_dn (by show 0 < s.length + 1; omega)
          have n2 : nI (a :: s).length - nI 1 = nI s.length := zsub1 (by show 0 < s.length + 1; omega)
          rw [n1, n2]
          refine ⟨fun h9 => ⟨co, rs, r2, cs, by rw [ns]; exact zin (by omega) (by omega), ?_⟩, fun h9 => ⟨co, rs, r2, co, rs, r2, cs, by rw [ns]; exact zin (by omega) (by omega), cs, by rw [ns]; exact zin (by omega) (by omega), ?_⟩⟩
          · have e : c ≠ 14 := fun e => h9 (by rw [e])
            rw [if_neg e] at hf
            have ev : evC (vl w h p sd) ((c, v) :: l) (a :: s) = if a = 0 then false else evC (vl w h p sd) l s := by
              exact evC_m h4 h14 e
            rw [ev] at hQ
            rw [zcl9 (by omega), k1, nI_add]
            refine ⟨fun h8 => ?_, fun h8 => ⟨rfl, ?_⟩⟩
            · rw [if_neg h8] at hQ
              obtain ⟨y1, y2, y3, y4, y5⟩ := aS (S' := S) zJ.rf
              exact w_Tv_isTrueOf_4 hN h1 h2 h3 l (i + 1) s hS y2 y3 y1 y4 (by omega) (by omega) hf.2 k2 y5 hQ
            · rw [if_pos (Classical.not_not.mp h8)] at hQ
              exact hQ S zJ.rf
          · have e : c = 14 := nEq (by omega) (by omega) (Classical.not_not.mp h9)
            rw [if_pos e] at hf
            have ev : evC (vl w h p sd) ((c, v) :: l) (a :: s) = evC (vl w h p sd) l ((nI 1 - a) :: s) := by
              exact evC_n h4 h14 e
            rw [ev] at hQ
            rw [zcl9 (by omega), k1, nI_add]
            have j : zJ [rs] S (zsI S rs s.length (nI 1 - a)) := zJ.rf.I (by show (Nat.beq rs rs || false) = true; rw [Nat.beq_refl]; rfl)
            obtain ⟨y1, y2, y3, y4, y5⟩ := aS j
            exact w_Tv_isTrueOf_4 hN h1 h2 h3 l (i + 1) ((nI 1 - a) :: s) hS y2 y3 y1 y4 (by omega) hs hf.2 (by rw [zI_eq]; exact stk_push k2) y5 (fun S' j' => hQ S' (j.tr j'))
theorem w_Tv_isTrueOf {o2 ra rb rs : Nat} {w h p : Nat → Nat} {sd : Nat} {l : List (Nat × Nat)} (hN : l.length ≤ 400) (h1 : rs ≠ ra) (h2 : rs ≠ rb) (h3 : zNo [111, 112, 113, 114] rs) {S : ZSt} {Q : ZOut → ZSt → Prop} (hS : zSh S) (ht : jTO S o2 ra rb rs l) (hf : wfC l 0) (hE : jEv S w h p sd) (hQ : ∀ S', zJ [rs] S S' → Q (.inl (some (.int (zBo (evC (vl w h p sd) l []))))) S') : zC m_Tk_isTrueOf [.ref o2, .ref 111] S Q := by
  obtain ⟨t1, t2, t3, t4⟩ := ht
  exact b_Tv_isTrueOf hS (w_Tv_isTrueOf_4 hN h1 h2 h3 l 0 [] hS t1 t2 t3 t4 (by omega) (by show 0 ≤ 32; omega) hf trivial hE hQ)
/-- the object's side -/
theorem w_Tv_isMetBy {o2 ra rb rs : Nat} {w : Nat → Nat} {r : (Nat → Nat) × (Nat → Nat) × Nat × Nat × Nat × Nat} {cs : List (List (Nat × Nat))} (hf : wfT cs) (h1 : rs ≠ ra) (h2 : rs ≠ rb) (h3 : zNo [111, 112, 113, 114] rs) {S : ZSt} {Q : ZOut → ZSt → Prop} (hS : zSh S) (ht : jTO S o2 ra rb rs (flat cs)) (hw : jN (zI S 112) 12 1000000000 w) (hr : jRv S r) (he : r.2.2.2.2.1 ≤ 3) (hQ : ∀ S', zJ [rs] S S' → Q (.inl (some (.int (zBo (met w r cs))))) S') : zC m_Tk_isMetBy [.ref o2, .ref 111] S Q := by
  obtain ⟨r1, r2, r3, r4, r5, r6⟩ := hr
  have key : r.2.2.2.2.1 ≤ 1 → zC m_Tk_isTrueOf [.ref o2, .ref 111] S (zback m_Tk_isMetBy 17 9 [some (.ref o2), some (.ref 111)] [] (fun i1 l1 s1 S1 => zW 4 m_Tk_isMetBy i1 l1 s1 S1 Q) (fun x S1 => Q (.inr x) S1)) := fun h9 => by
    refine w_Tv_isTrueOf (w := w) (h := r.1) (p := r.2.1) (sd := r.2.2.2.2.2) hf.2.1 h1 h2 h3 hS ht (wfC_flat cs hf.2.2) ⟨hw, r1, r2, r6⟩ (fun S1 j1 => ?_)
    rw [evC_flat cs hf.2.2]
    have e : met w r cs = tru (vl w r.1 r.2.1 r.2.2.2.2.2) cs := by
      unfold met
      rw [decide_eq_true h9]
      rfl
    rw [e] at hQ
    refine b_Tv_isMetBy_10 (j1.sh hS) ⟨fun h8 => ⟨rfl, ?_⟩, fun h8 => ⟨rfl, ?_⟩⟩
    · cases hb : tru (vl w r.1 r.2.1 r.2.2.2.2.2) cs with
      | false =>
        rw [hb] at hQ
        exact hQ S1 j1
      | true =>
        rw [hb] at h8
        exact absurd h8 (by decide)
    · cases hb : tru (vl w r.1 r.2.1 r.2.2.2.2.2) cs with
      | false =>
        rw [hb] at h8
        exact absurd (by decide) h8
      | true =>
        rw [hb] at hQ
        exact hQ S1 j1
  refine b_Tv_isMetBy hS ?_
  rw [r5]
  refine ⟨fun h9 => ⟨ht.1, key (by rw [nI_z (by omega)] at h9; omega)⟩, fun h9 => ⟨fun h8 => ⟨rfl, ?_⟩, fun h8 => ⟨ht.1, key (by have := nEq (by omega) (by omega) (Classical.not_not.mp h8); omega)⟩⟩⟩
  have e : met w r cs = false := by
    unfold met
    rw [decide_eq_false (fun h => by
      rcases (show r.2.2.2.2.1 = 0 ∨ r.2.2.2.2.1 = 1 by omega) with h7 | h7
      · exact h9 (by rw [h7]; rfl)
      · exact h8 (by rw [h7]))]
    rfl
  rw [e] at hQ
  exact hQ S zJ.rf
