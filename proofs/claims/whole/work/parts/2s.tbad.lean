/-! A text that is no task leaves the tasks as they were -/
theorem zTb.base {tc st : Nat} {S S2 : ZSt} (q2 : S2.2.2 = S.2.2) (oI : ∀ c, zmem c lNT = false → zI S2 c = zI S c) (o75 : zI S2 75 = zI S 75) (o142 : zI S2 142 = zI S 142) (o130 : ∀ j, zmem j (15 :: 20 :: lTs) = false → zI S2 130 j = zI S 130 j) (m140 : ∀ j, j < st → zI S2 140 j = zI S 140 j ∧ zI S2 141 j = zI S 141 j) (m143 : ∀ j, j < 13 * tc → zI S2 143 j = zI S 143 j) (hB : zBase S) (hS : zSh S) (h7 : zI S 75 7 = nI tc) (htc : tc ≤ 6) (h20 : zI S 130 20 = nI st) (hst : st ≤ 400 * tc) (hp : jTape S2) (hf : zI S2 76 8 = zI S2 130 11) (n15 : zI S2 130 15 = nI tc) (n20 : zI S2 130 20 = nI st) : zBase S2 := by
  obtain ⟨b1, b2, b3, b4, b5, b6, b7, b8, ⟨tg, b9⟩, b10, b11⟩ := hB
  have u1 : zR S2 = zR S := by show S2.2.2.1 = S.2.2.1; rw [q2]
  have u2 : zn S2 = zn S := by show S2.2.2.2.1 = S.2.2.2.1; rw [q2]
  have u3 : zc S2 = zc S := by show S2.2.2.2.2.1 = S.2.2.2.2.1; rw [q2]
  have u4 : zx S2 = zx S := by show S2.2.2.2.2.2.1 = S.2.2.2.2.2.1; rw [q2]
  have oD : ∀ c, 162 ≤ c → zI S2 c = zI S c := fun c hc => oI c (zmem_big (b := 162) rfl hc)
  have es : ∀ c, zStk S2 c ↔ zStk S c := fun c => by
    unfold zStk
    rw [u1, u3]
  have ed : ∀ c, zDy S2 c ↔ zDy S c := fun c => by
    unfold zDy
    rw [u4]
  refine ⟨fun c j a1 a2 => ?_, hp, hf, ?_, ?_, ?_, (o130 34 rfl).trans b7, by rw [u1]; exact b8, ⟨tg, ?_⟩, fun c hc => b10 c ((es c).mp hc), ?_⟩
  · rw [oI c (zlst (l := lNT) rfl a2)]
    exact b1 c j a1 a2
  · obtain ⟨wc, w1, w2, w3, w4⟩ := b4
    refine ⟨wc, w1, by rw [o75]; exact w2, (o130 14 rfl).trans w3, fun i hi => ?_⟩
    obtain ⟨o, ra, rb, rc, n, kd, fa, fb, c1, ⟨d0, d1, d2, d3⟩, c2, c3, c4⟩ := w4 i hi
    refine ⟨o, ra, rb, rc, n, kd, fa, fb, by rw [u1]; exact c1, ⟨(ed _).mpr d0, (ed _).mpr d1, (ed _).mpr d2, (ed _).mpr d3⟩, c2, ?_, c4.cg (oI 136 rfl) (oI 137 rfl) (oI 138 rfl) (oI 139 rfl)⟩
    unfold jWO zArr
    rw [u1, u2, u3, oD o d0.1, oD ra d1.1, oD rb d2.1, oD rc d3.1]
    exact c3
  · obtain ⟨tc0, st0, t1, t2, t3, t4, t5, t9, t6⟩ := b5
    have q1 : tc0 = tc := nEq (by omega) (by omega) (t3.symm.trans h7)
    have q2 : st0 = st := nEq (by omega) (by omega) (t5.symm.trans h20)
    subst q1
    subst q2
    refine ⟨tc0, st0, t1, t2, by rw [o75]; exact t3, n15, n20, fun i hi => by rw [u1]; exact t9 i hi, fun i hi => ?_⟩
    obtain ⟨o2, cs', c1, ⟨k1, ra, rb', rs, k2, ⟨k3, k4⟩, ⟨k5, k6⟩, k7⟩, c3, f, c4, c5⟩ := t6 i hi
    have k12 := k1.1
    refine ⟨o2, cs', by rw [u1]; exact c1, ⟨k1, ra, rb', rs, k2, ⟨⟨k3.1, fun y => k3.2 ((es _).mp y)⟩, ⟨k4.1, fun y => k4.2 ((es _).mp y)⟩⟩, ⟨(es _).mpr k5, k6⟩, ?_⟩, by rw [o142]; exact c3, f, cdM_r cs' 0 f c4 (fun j hj => m140 j (by omega)) (fun j hj => m143 j (by omega)), c5⟩
    unfold jTO zArr
    rw [u1, u2, u3, oD ra k3.1, oD rb' k4.1]
    exact k7
  · obtain ⟨ic, i1, i2, i3, i4, i5⟩ := b6
    have io : ∀ {o' rs}, jIO S o' rs → jIO S2 o' rs := fun {o' rs} hio => by
      obtain ⟨⟨a1, a2⟩, a3⟩ := hio
      refine ⟨⟨(ed _).mpr a1, by rw [u3]; exact a2⟩, fun k hk hk3 => ?_⟩
      obtain ⟨c1, c2, c3⟩ := a3 k hk hk3
      exact ⟨by rw [u1]; exact c1, (ed _).mpr c2, by unfold zArr; rw [u2, u3]; exact c3⟩
    refine ⟨ic, i1, by rw [o75]; exact i2, (o130 4 rfl).trans i3, fun i' o' ho' => ?_, fun i' hi' => ?_⟩
    · rw [u1] at ho'
      obtain ⟨a1, rs, a2⟩ := i4 i' o' ho'
      exact ⟨a1, rs, io a2⟩
    · obtain ⟨o', rs, a1, a2, a3⟩ := i5 i' hi'
      refine ⟨o', rs, by rw [u1]; exact a1, io a2, ?_⟩
      have dk : ∀ k, k < 12 → k ≠ 3 → zI S2 (rs k) = zI S (rs k) := fun k hk hk3 => oD _ (a2.2 k hk hk3).2.1.1
      unfold jSt
      rw [oD o' a2.1.1.1, dk 0 (by omega) (by omega), dk 1 (by omega) (by omega), dk 2 (by omega) (by omega), dk 4 (by omega) (by omega), dk 5 (by omega) (by omega), dk 6 (by omega) (by omega), dk 7 (by omega) (by omega), dk 8 (by omega) (by omega), dk 9 (by omega) (by omega), dk 10 (by omega) (by omega), dk 11 (by omega) (by omega), oI 133 rfl]
      exact a3
  · unfold zTg
    rw [u1, u3]
    exact b9
  · unfold zWf
    rw [u1, u4]
    exact b11
theorem zTask_bad {L N tc st : Nat} {S S1 S2 : ZSt} {r : Int64} (h : zInv L N S) (h7 : zI S 75 7 = nI tc) (htc : tc ≤ 6) (h20 : zI S 130 20 = nI st) (hst : st ≤ 400 * tc) (j1 : zJ [76, 86, 87, 88, 89] S S1) (j2 : zJ [130, 140, 141, 142, 143] (zsL S1 161 0 r) S2) (f2 : ∀ j, zmem j (15 :: 20 :: lTs) = false → zI S2 130 j = zI S 130 j) (f15 : zI S2 130 15 = nI tc) (f20 : zI S2 130 20 = nI st) (f142 : zI S2 142 = zI S 142) (f140 : ∀ j, j < st → zI S2 140 j = zI S 140 j ∧ zI S2 141 j = zI S 141 j) (f143 : ∀ j, j < 13 * tc → zI S2 143 j = zI S 143 j) (a1 : zI S1 76 1 = nI 0) (b5 : zI S2 130 5 = nI 0) (h8 : zI S1 76 8 = zI S2 130 11) : zSh S2 ∧ zL S2 161 0 = r ∧ zInv L (N + 1) S2 := by
  have hS1 := j1.sh h.1
  have hS2 : zSh S2 := j2.sh (show zSh (zsL S1 161 0 r) from hS1)
  have out : ∀ c, zmem c [76, 86, 87, 88, 89, 130, 140, 141, 142, 143] = false → zI S2 c = zI S c := fun c hc => (j2.2 c (zsub_of rfl c hc)).trans (j1.2 c (zsub_of rfl c hc))
  have e76 : zI S2 76 = zI S1 76 := j2.2 76 rfl
  have q1 : S2.2 = (zsL S1 161 0 r).2 := j2.1
  have q2 : S2.2.2 = S.2.2 := by
    rw [q1]
    show S1.2.2 = S.2.2
    rw [j1.1]
  have u2 : zn S2 = zn S := by show S2.2.2.2.1 = S.2.2.2.1; rw [q2]
  have u3 : zc S2 = zc S := by show S2.2.2.2.2.1 = S.2.2.2.2.1; rw [q2]
  refine ⟨hS2, ?_, hS2, jCore_cong (fun c hc => out c (zdis_of rfl c hc)) h.2.1, zTb.base q2 (fun c hc => out c (zsub_of rfl c hc)) (out 75 rfl) f142 f2 f140 f143 h.2.2.1 h.1 h7 htc h20 hst (jTape0 (by rw [e76]; exact a1) b5) (by rw [e76]; exact h8) f15 f20, by rw [u3]; exact h.2.2.2.1, by rw [u2]; exact h.2.2.2.2.1, ?_, ?_⟩
  · show S2.2.1 161 0 = r
    rw [q1]
    rfl
  · have : zu S2 = zu S := by show S2.2.2.2.2.2.2.1 = S.2.2.2.2.2.2.1; rw [q2]
    have := h.2.2.2.2.2.1
    omega
  · have : zz S2 = zz S := by show S2.2.2.2.2.2.2.2 = S.2.2.2.2.2.2.2; rw [q2]
    have := h.2.2.2.2.2.2
    omega
