/-! What stays, for calls that work in cells of their own -/
theorem zsub_of {l l1 : List Nat} (h : l1.all (fun x => zmem x l) = true) : ∀ c, zmem c l = false → zmem c l1 = false := by
  intro c hc
  induction l1 with
  | nil => rfl
  | cons a l1 ih =>
    have h' : (zmem a l && l1.all (fun x => zmem x l)) = true := h
    obtain ⟨h1, h2⟩ := zand h'
    exact zmemC (fun e => by rw [e, h1] at hc; cases hc) (ih h2)
theorem zdis_of {l l1 : List Nat} (h : l1.all (fun x => !zmem x l) = true) : ∀ c, zmem c l1 = true → zmem c l = false := by
  intro c hc
  induction l1 with
  | nil => cases hc
  | cons a l1 ih =>
    have h' : (!zmem a l && l1.all (fun x => !zmem x l)) = true := h
    obtain ⟨h1, h2⟩ := zand h'
    rcases zmemT hc with e | e
    · rw [e]
      cases hb : zmem a l with
      | false => rfl
      | true =>
        rw [hb] at h1
        cases h1
    · exact ih h2 e
def lCore : List Nat := [92, 93, 94, 95, 96, 97, 98, 99, 100, 101, 102, 103, 105, 131, 132]
theorem jCore_cong {S S' : ZSt} (h : ∀ c, zmem c lCore = true → zI S' c = zI S c) (hJ : jCore S) : jCore S' := by
  unfold jCore jMain jRef jSt
  rw [h 92 rfl, h 93 rfl, h 94 rfl, h 95 rfl, h 96 rfl, h 97 rfl, h 98 rfl, h 99 rfl, h 100 rfl, h 101 rfl, h 102 rfl, h 103 rfl, h 105 rfl, h 131 rfl, h 132 rfl]
  exact hJ
theorem jCore_inc {S S' : ZSt} {r : Nat} (hr : r < 4) (h : ∀ c, zmem c lCore = true → c ≠ 105 → c ≠ 131 → zI S' c = zI S c) (h1 : zI S' 105 = upd (zI S 105) r (zI S 105 r + nI 1)) (h2 : zI S' 131 = upd (zI S 131) r (zI S 131 r + nI 1)) (hJ : jCore S) : jCore S' := by
  have hm : jMain S' = jMain S := by
    unfold jMain jSt
    rw [h 92 rfl (by omega) (by omega), h 93 rfl (by omega) (by omega), h 94 rfl (by omega) (by omega), h 95 rfl (by omega) (by omega), h 96 rfl (by omega) (by omega), h 97 rfl (by omega) (by omega), h 98 rfl (by omega) (by omega), h 99 rfl (by omega) (by omega), h 100 rfl (by omega) (by omega), h 101 rfl (by omega) (by omega), h 102 rfl (by omega) (by omega), h 103 rfl (by omega) (by omega), h 132 rfl (by omega) (by omega)]
  refine ⟨by rw [hm]; exact hJ.1, fun j hj => ?_⟩
  rw [h1, h2]
  exact jRef_up hJ.2 hr j hj
theorem zOnly3.thr {l : List Nat} {S Sc S' : ZSt} (h1 : zJ l S Sc) (h2 : zJ l (zThr Sc) S') (hk : ∀ j, zmem j zKeys = true → zI S' 130 j = zI S 130 j) : zOnly3 l 1 S S' := by
  obtain ⟨a1, a2⟩ := h1
  obtain ⟨b1, b2⟩ := h2
  refine ⟨fun c hc => (b2 c hc).trans (a2 c hc), hk, fun c hc => ?_, ?_, ?_, ?_, ?_, ?_, ?_⟩
  · show S'.2.1 c = S.2.1 c
    rw [b1, ← a1]
    rfl
  · show S'.2.2.1 = S.2.2.1
    rw [b1, ← a1]
    rfl
  · show S'.2.2.2.1 = S.2.2.2.1
    rw [b1, ← a1]
    rfl
  · show S'.2.2.2.2.1 = S.2.2.2.2.1
    rw [b1, ← a1]
    rfl
  · show S'.2.2.2.2.2.1 = S.2.2.2.2.2.1
    rw [b1, ← a1]
    rfl
  · show S.2.2.2.2.2.2.1 ≤ S'.2.2.2.2.2.2.1 ∧ S'.2.2.2.2.2.2.1 ≤ S.2.2.2.2.2.2.1 + 1
    rw [b1, ← a1]
    exact ⟨Nat.le_succ _, Nat.le_refl _⟩
  · show S.2.2.2.2.2.2.2 ≤ S'.2.2.2.2.2.2.2 ∧ S'.2.2.2.2.2.2.2 ≤ S.2.2.2.2.2.2.2 + 50 * 1
    rw [b1, ← a1]
    exact ⟨Nat.le_add_right _ 6, Nat.add_le_add_left (by omega : 6 ≤ 50 * 1) _⟩
/-- both worked in cells of their own and refused -/
theorem zBadJ {l l1 l2 : List Nat} {S Sc T1 : ZSt} {r : Nat} {kk b : Int32} (hJ : jCore S) (hr : r < 4) (hk : kk ≠ nI 0) (j1 : zJ l1 S Sc) (j2 : zJ l2 (zsI (zThr (zsI Sc 105 r (zI Sc 105 r + nI 1))) 130 0 (nI 0)) T1) (k2 : ∀ j, zmem j zKeys = true → zI T1 130 j = zI (zsI (zThr (zsI Sc 105 r (zI Sc 105 r + nI 1))) 130 0 (nI 0)) 130 j)
    (hl : (l1.all (fun x => zmem x l) && (l2.all (fun x => zmem x l) && (zmem 105 l && (zmem 130 l && (zmem 131 l && (lCore.all (fun x => !zmem x l1) && (lCore.all (fun x => !zmem x l2) && !zmem 130 l1))))))) = true) :
    zAns3 l S jCore kk (.int b) (zsI (zsI T1 130 0 kk) 131 r (zI T1 131 r + nI 1)) := by
  obtain ⟨q1, hl⟩ := zand hl
  obtain ⟨q2, hl⟩ := zand hl
  obtain ⟨q3, hl⟩ := zand hl
  obtain ⟨q4, hl⟩ := zand hl
  obtain ⟨q5, hl⟩ := zand hl
  obtain ⟨q6, hl⟩ := zand hl
  obtain ⟨q7, q8⟩ := zand hl
  have q8 : zmem 130 l1 = false := by
    cases hb : zmem 130 l1 with
    | false => rfl
    | true =>
      rw [hb] at q8
      cases q8
  have d1 := zdis_of q6
  have d2 := zdis_of q7
  have c1 : ∀ c, zmem c lCore = true → zI Sc c = zI S c := fun c hc => j1.2 c (d1 c hc)
  have c2 : ∀ c, zmem c lCore = true → zI T1 c = zI (zThr (zsI Sc 105 r (zI Sc 105 r + nI 1))) c := fun c hc => (j2.2 c (d2 c hc)).trans (zI_ne _ _ (fun e => by rw [e] at hc; cases hc))
  have jA1 : zJ l S (zsI Sc 105 r (zI Sc 105 r + nI 1)) := (zJ3 j1 (zsub_of q1)).I q3
  have jA2 : zJ l (zThr (zsI Sc 105 r (zI Sc 105 r + nI 1))) (zsI (zsI T1 130 0 kk) 131 r (zI T1 131 r + nI 1)) := (((zJ.rf.I q4).tr (zJ3 j2 (zsub_of q2))).I q4).I q5
  refine ⟨b, rfl, ?_, fun e => absurd e hk, zOnly3.thr jA1 jA2 (fun j hj => ?_), jCore_inc hr (fun c hc h5 h1 => ?_) ?_ ?_ hJ⟩
  · rw [zI_ne _ _ (by omega), zI_s]
  · have hj0 : j ≠ 0 := by
      have := zkey hj
      omega
    rw [zI_ne _ _ (by omega), zI_o hj0, k2 j hj, zI_o hj0]
    show zI (zsI Sc 105 r (zI Sc 105 r + nI 1)) 130 j = _
    rw [zI_ne _ _ (by omega), j1.2 130 q8]
  · rw [zI_ne _ _ h1, zI_ne _ _ (fun e => by rw [e] at hc; cases hc), c2 c hc]
    show zI (zsI Sc 105 r (zI Sc 105 r + nI 1)) c = _
    rw [zI_ne _ _ h5, c1 c hc]
  · rw [zI_ne _ _ (by omega), zI_ne _ _ (by omega), c2 105 rfl]
    show zI (zsI Sc 105 r (zI Sc 105 r + nI 1)) 105 = _
    rw [zI_eq, c1 105 rfl]
  · have e : zI (zsI T1 130 0 kk) 131 = zI S 131 := by
      rw [zI_ne _ _ (by omega), c2 131 rfl]
      show zI (zsI Sc 105 r (zI Sc 105 r + nI 1)) 131 = _
      rw [zI_ne _ _ (by omega), c1 131 rfl]
    have e' : zI T1 131 = zI S 131 := by
      rw [← e, zI_ne _ _ (by omega)]
    rw [zI_eq, e, e']
/-- both worked in cells of their own and answered -/
theorem zOKJ {l l1 l2 : List Nat} {S Sc T1 : ZSt} {x y : Int32} (hJ : jCore S) (e : x = y) (j1 : zJ l1 S Sc) (j2 : zJ l2 (zsI (zsL Sc 161 0 x.toInt64) 130 0 (nI 0)) T1) (k2 : ∀ j, j = 0 ∨ zmem j zKeys = true → zI T1 130 j = zI (zsI (zsL Sc 161 0 x.toInt64) 130 0 (nI 0)) 130 j)
    (hl : (l1.all (fun x => zmem x l) && (l2.all (fun x => zmem x l) && (zmem 130 l && (lCore.all (fun x => !zmem x l1) && (lCore.all (fun x => !zmem x l2) && !zmem 130 l1))))) = true) :
    zAns3 l S jCore (nI 0) (.int y) T1 := by
  obtain ⟨q1, hl⟩ := zand hl
  obtain ⟨q2, hl⟩ := zand hl
  obtain ⟨q4, hl⟩ := zand hl
  obtain ⟨q6, hl⟩ := zand hl
  obtain ⟨q7, q8⟩ := zand hl
  have q8 : zmem 130 l1 = false := by
    cases hb : zmem 130 l1 with
    | false => rfl
    | true =>
      rw [hb] at q8
      cases q8
  have d1 := zdis_of q6
  have d2 := zdis_of q7
  refine ⟨y, rfl, ?_, fun _ => ?_, zOnly3.mk (Sc := Sc) (x := x.toInt64) (zJ3 j1 (zsub_of q1)) ((zJ.rf.I q4).tr (zJ3 j2 (zsub_of q2))) (fun j hj => ?_), jCore_cong (fun c hc => ?_) hJ⟩
  · rw [k2 0 (Or.inl rfl), zI_s]
  · show T1.2.1 161 0 = _
    rw [j2.1, ← e]
    rfl
  · have hj0 : j ≠ 0 := by
      have := zkey hj
      omega
    rw [k2 j (Or.inr hj), zI_o hj0]
    show zI Sc 130 j = _
    rw [j1.2 130 q8]
  · rw [j2.2 c (d2 c hc), zI_ne _ _ (fun e => by rw [e] at hc; cases hc)]
    exact j1.2 c (d1 c hc)
