/-! The count of ways grows by one -/
def zKV (wc : Nat) (S S' : ZSt) : Prop := (∀ j, zmem j [4, 15, 20, 34] = true → zI S' 130 j = zI S 130 j) ∧ (∀ q, q < wc → zI S' 136 q = zI S 136 q) ∧ ∀ q, q < 24 * wc → zI S' 137 q = zI S 137 q ∧ zI S' 138 q = zI S 138 q ∧ zI S' 139 q = zI S 139 q
def zFV (wc : Nat) (S S2 : ZSt) : Prop := (∀ c, zmem c lC = false → ¬ zStk S c → zI S2 c = zI S c) ∧ zKV wc S S2 ∧ (∀ c, c ≠ 125 → zR S2 c = zR S c) ∧ (zSwp (zR S 125) → zSwp (zR S2 125)) ∧ zn S2 = zn S ∧ zc S2 = zc S ∧ zx S2 = zx S ∧ ∀ j, j = 7 ∨ j = 10 → zI S2 75 j = zI S 75 j
theorem zFV.at {wc : Nat} {S S2 : ZSt} (h : zFV wc S S2) (hD : zStD S) {c : Nat} (hl : (!zmem c lC && Nat.blt c 162) = true) : zI S2 c = zI S c := by
  obtain ⟨h1, h2⟩ := zand hl
  have h3 : c < 162 := Nat.le_of_ble_eq_true h2
  refine h.1 c ?_ (fun h9 => by have := hD c h9; omega)
  cases hb : zmem c lC with
  | false => rfl
  | true =>
    rw [hb] at h1
    cases h1
theorem zFV.dy {wc : Nat} {S S2 : ZSt} (h : zFV wc S S2) {c : Nat} (hc : 162 ≤ c) (hs : ¬ zStk S c) : zI S2 c = zI S c := h.1 c (zmem_big (b := 162) rfl hc) hs
theorem zFV.stk {wc : Nat} {S S2 : ZSt} (h : zFV wc S S2) {c : Nat} : zStk S2 c ↔ zStk S c := ⟨fun h9 => zStk_of h.2.2.2.2.2.1 h.2.2.1 h9, fun h9 => zStk_of h.2.2.2.2.2.1.symm (fun c hc => (h.2.2.1 c hc).symm) h9⟩
theorem zFV.dyc {wc : Nat} {S S2 : ZSt} (h : zFV wc S S2) {c : Nat} : zDy S2 c ↔ zDy S c := by
  unfold zDy
  rw [h.2.2.2.2.2.2.1]
theorem zFV.ok {wc : Nat} {S S2 : ZSt} (h : zFV wc S S2) {c : Nat} (hc : zOkC S c) : zOkC S2 c := ⟨hc.1, fun h9 => hc.2 (h.stk.mp h9)⟩
theorem zFV.wf {wc : Nat} {S S2 : ZSt} (h : zFV wc S S2) (hw : zWf S) : zWf S2 := ⟨fun o k q ho hq => by
  rw [h.2.2.2.2.2.2.1]
  rw [h.2.2.1 o ho] at hq
  exact hw.1 o k q ho hq, fun c i hc hq => by
  rw [h.2.2.1 c hc] at hq
  exact hw.2.1 c i hc hq, fun c i o hc ho => by
  rw [h.2.2.1 c (by omega)] at ho
  exact hw.2.2 c i o hc ho⟩
theorem zmemV9 {c : Nat} (h1 : 1 ≤ c) (h2 : c < 75) : zmem c lC = false := by
  have hall : (List.range 75).all (fun c => !zmem c lC) = true := by decide +kernel
  have := List.all_eq_true.mp hall c (List.mem_range.mpr h2)
  cases hb : zmem c lC with
  | false => rfl
  | true =>
    rw [hb] at this
    cases this
theorem zFV.base {wc : Nat} {S S2 : ZSt} (h : zFV wc S S2) (hB : zBase S) (ht : jTape S2) (hf : zI S2 76 8 = zI S2 130 11) (hw : zI S 75 6 = nI wc) (hwc : wc < 6) (hn : zI S2 75 6 = nI (wc + 1) ∧ zI S2 130 14 = nI (wc + 1) ∧ ∃ o ra rb rc n kd fa fb, zR S2 90 wc = some o ∧ (zDy S2 o ∧ zDy S2 ra ∧ zDy S2 rb ∧ zDy S2 rc) ∧ zWy n kd fa fb ∧ jWO S2 o ra rb rc n kd fa fb ∧ jWM S2 wc n kd fa fb) : zBase S2 := by
  obtain ⟨b1, b2, b3, b4, b5, b6, b7, b8, ⟨tg, b9⟩, b10, b11⟩ := hB
  have hwn := b9.wn
  obtain ⟨k1, k2, k3⟩ := h.2.1
  have h75 := h.2.2.2.2.2.2.2
  have r := h.2.2.1
  have ec := h.2.2.2.2.2.1
  have en := h.2.2.2.2.1
  have ex := h.2.2.2.2.2.2.1
  have r90 : zR S2 90 = zR S 90 := r 90 (by omega)
  have r91 : zR S2 91 = zR S 91 := r 91 (by omega)
  have r104 : zR S2 104 = zR S 104 := r 104 (by omega)
  refine ⟨fun c j a1 a2 => ?_, ?_, ?_, ?_, ?_, ?_, ?_, h.2.2.2.1 b8, ⟨tg, ?_⟩, fun c hc => b10 c (h.stk.mp hc), ?_⟩
  · rw [h.1 c (zmemV9 a1 a2) (fun h9 => by have := b10 c h9; omega)]
    exact b1 c j a1 a2
  · exact ht
  · exact hf
  · obtain ⟨wd, w1, w2, w3, w4⟩ := b4
    have ew : wd = wc := nEq (by omega) (by omega) (w2.symm.trans hw)
    subst ew
    refine ⟨wd + 1, by omega, hn.1, hn.2.1, fun i hi => ?_⟩
    by_cases ei : i = wd
    · subst ei
      exact hn.2.2
    obtain ⟨o, ra, rb, rc, n, kd, fa, fb, c1, ⟨d0, d1, d2, d3⟩, c2, c3, c4⟩ := w4 i (by omega)
    obtain ⟨n0, n1⟩ := hwn i o c1
    refine ⟨o, ra, rb, rc, n, kd, fa, fb, by rw [r90]; exact c1, ⟨h.dyc.mpr d0, h.dyc.mpr d1, h.dyc.mpr d2, h.dyc.mpr d3⟩, c2, ?_, ?_⟩
    · have hb := d0.1
      unfold jWO zArr
      rw [ec, en, r o (by omega), h.dy d0.1 n0, h.dy d1.1 (n1 0 ra (by omega) c3.2.2.1.1), h.dy d2.1 (n1 1 rb (by omega) c3.2.2.1.2.1), h.dy d3.1 (n1 2 rc (by omega) c3.2.2.1.2.2)]
      exact c3
    · obtain ⟨e1, e2⟩ := c4
      have hn := c2.2.1
      refine ⟨by rw [k2 i (by omega)]; exact e1, fun k hk => ?_⟩
      obtain ⟨f1, f2, f3⟩ := k3 (24 * i + k) (by omega)
      rw [f1, f2, f3]
      exact e2 k hk
  · obtain ⟨tc, st, t1, t2, t3, t4, t5, t9, t6⟩ := b5
    refine ⟨tc, st, t1, t2, by rw [h75 7 (Or.inl rfl)]; exact t3, by rw [k1 15 rfl]; exact t4, by rw [k1 20 rfl]; exact t5, fun i9 h9 => by rw [r91]; exact t9 i9 h9, fun i hi => ?_⟩
    obtain ⟨o2, cs, c1, ⟨g1, ra, rb, rs, g2, ⟨g3, g4⟩, ⟨g5, g6⟩, g7⟩, c3, f, c4, c5⟩ := t6 i hi
    refine ⟨o2, cs, by rw [r91]; exact c1, ⟨g1, ra, rb, rs, g2, ⟨h.ok g3, h.ok g4⟩, ⟨h.stk.mpr g5, g6⟩, ?_⟩, by rw [h.at (c := 142) b10 rfl]; exact c3, f, c4.cg (h.at b10 rfl) (h.at b10 rfl) (h.at b10 rfl), c5⟩
    unfold jTO zArr
    rw [ec, en, r o2 (by omega), h.dy g3.1 g3.2, h.dy g4.1 g4.2]
    exact g7
  · obtain ⟨ic, i1, i2, i3, i4, i5⟩ := b6
    have io : ∀ {o rs}, jIO S o rs → jIO S2 o rs := fun {o rs} hio => by
      obtain ⟨⟨a1, a2⟩, a3⟩ := hio
      have := a1.1
      refine ⟨⟨h.dyc.mpr a1, by rw [ec]; exact a2⟩, fun k hk hk3 => ?_⟩
      obtain ⟨c1, c2, c3, c4⟩ := a3 k hk hk3
      exact ⟨by rw [r o (by omega)]; exact c1, h.dyc.mpr c2, by unfold zArr; rw [ec, en]; exact ⟨c3, c4⟩⟩
    refine ⟨ic, i1, by rw [h75 10 (Or.inr rfl)]; exact i2, by rw [k1 4 rfl]; exact i3, fun i o ho => ?_, fun i hi => ?_⟩
    · rw [r104] at ho
      obtain ⟨a1, rs, a2⟩ := i4 i o ho
      exact ⟨a1, rs, io a2⟩
    · obtain ⟨o, rs, a1, a2, a3⟩ := i5 i hi
      refine ⟨o, rs, by rw [r104]; exact a1, io a2, ?_⟩
      obtain ⟨t1, t2, t3⟩ := b9.2.2.1 i o a1
      have dk : ∀ k, k < 12 → k ≠ 3 → zI S2 (rs k) = zI S (rs k) := fun k hk hk3 => by
        obtain ⟨c1, c2, c3⟩ := a2.2 k hk hk3
        refine h.dy c2.1 (fun h9 => ?_)
        obtain ⟨j, e1, e2⟩ := b9.stk h9
        have := t3 k (rs k) hk c1
        omega
      have do' : zI S2 o = zI S o := h.dy a2.1.1.1 (fun h9 => by
        obtain ⟨j, e1, e2⟩ := b9.stk h9
        omega)
      unfold jSt
      rw [do', dk 0 (by omega) (by omega), dk 1 (by omega) (by omega), dk 2 (by omega) (by omega), dk 4 (by omega) (by omega), dk 5 (by omega) (by omega), dk 6 (by omega) (by omega), dk 7 (by omega) (by omega), dk 8 (by omega) (by omega), dk 9 (by omega) (by omega), dk 10 (by omega) (by omega), dk 11 (by omega) (by omega), h.at (c := 133) b10 rfl]
      exact a3
  · rw [k1 34 rfl]
    exact b7
  · obtain ⟨g1, g2, g3, g4⟩ := b9
    refine ⟨fun i o ho => ?_, fun i o ho => ?_, fun i o ho => ?_, fun o ho h5 => ?_⟩
    · rw [r90] at ho
      obtain ⟨a1, a2, a3⟩ := g1 i o ho
      obtain ⟨x1, x2⟩ := hwn i o ho
      refine ⟨a1, a2, fun k q hk hq => a3 k q hk ?_⟩
      by_cases e : o = 125
      · exfalso
        rw [e] at ho
        have := b11.2.1 _ _ (by omega) ho
        omega
      · rw [r o e] at hq
        exact hq
    · rw [r91] at ho
      obtain ⟨a1, a2, a3⟩ := g2 i o ho
      refine ⟨a1, a2, fun k q hk hq => a3 k q hk ?_⟩
      by_cases e : o = 125
      · exfalso
        rw [e] at ho
        have := b11.2.1 _ _ (by omega) ho
        omega
      · rw [r o e] at hq
        exact hq
    · rw [r104] at ho
      obtain ⟨a1, a2, a3⟩ := g3 i o ho
      refine ⟨a1, a2, fun k q hk hq => a3 k q hk ?_⟩
      by_cases e : o = 125
      · exfalso
        rw [e] at ho
        have := b11.2.1 _ _ (by omega) ho
        omega
      · rw [r o e] at hq
        exact hq
    · rw [ec] at h5
      rw [r91]
      exact g4 o ho h5
  · exact h.wf b11
theorem y_keep {v1 v2 v3 v4 v5 : Int32} {S : ZSt} {res : ZRes} (hS : zSh S) (hD : zStD S) (hJ : jCore S) (hr : ∀ r kk, res = .inl (r, kk) → (r = 1 ∧ kk = 1) ∨ (r = 2 ∧ kk = 2)) (hO : zC m_N_keep [.ref 75, .int v1, .int v2, .int v3, .int v4, .int v5] S (zOb S res)) (hM : ∀ T, zSh T → zAt S T → zC m_M_keep [.ref 130, .int v1, .int v2, .int v3, .int v4, .int v5] T (zMo T res)) : zC m_L_keep [.ref 75, .int v1, .int v2, .int v3, .int v4, .int v5, .ref 161] S (zTwoR S m_M_keep [.int v1, .int v2, .int v3, .int v4, .int v5] (zAns4 S)) := by
  refine b_L_keep hS (zC.imp hO (fun o S1 h => ?_))
  cases res with
  | inr v =>
    obtain ⟨rfl, h1, h2⟩ := h
    exact b_L_keep_9 h2 ⟨zinl rfl, _, rfl, h1.kpL hD h2, zC.imp (hM (zsL S1 161 0 v.toInt64) h2 (h1.big hD)) (fun o S2 h => zy_ok hD hJ h1 h)⟩
  | inl p =>
    obtain ⟨r, kk⟩ := p
    obtain ⟨rfl, Sc, h1, h2, rfl⟩ := h
    rcases hr r kk rfl with ⟨rfl, rfl⟩ | ⟨rfl, rfl⟩
    · exact b_L_keep_12 h2 ⟨_, rfl, h1.kpT hD h2, zC.imp (hM (zThr (zsI Sc 105 1 (zI Sc 105 1 + nI 1))) h2 (fun c hc h9 => (zI_ne (S := Sc) _ _ (by omega)).trans (h1.big hD c hc h9))) (fun o S2 h => by
        obtain ⟨b, e1, e2⟩ := zy_bad (r := 1) (kk := 1) hD hJ h1 (by omega) (by omega) h
        exact ⟨b, e1, e2.to⟩)⟩
    · exact b_L_keep_15 h2 ⟨_, rfl, h1.kpT hD h2, zC.imp (hM (zThr (zsI Sc 105 2 (zI Sc 105 2 + nI 1))) h2 (fun c hc h9 => (zI_ne (S := Sc) _ _ (by omega)).trans (h1.big hD c hc h9))) (fun o S2 h => by
        obtain ⟨b, e1, e2⟩ := zy_bad (r := 2) (kk := 2) hD hJ h1 (by omega) (by omega) h
        exact ⟨b, e1, e2.to⟩)⟩
/-! keep: the reference's rows -/
theorem w_M_k35 {wc l : Nat} {F : List Lt} {q : Nat → Nat} {x1 x2 x3 x4 x5 : Int32} {Q : ZOut → ZSt → Prop} (hwc : wc < 6) (hl : l ≤ 3) : ∀ (f k : Nat) {S0 S : ZSt}, zSh S → f + k = l → zJ [137, 138, 139] S0 S → (∀ j, j < 24 * wc → zI S 137 j = zI S0 137 j ∧ zI S 138 j = zI S0 138 j ∧ zI S 139 j = zI S0 139 j) → zI S 130 14 = nI wc → zI S 130 44 = nI l → zFd S l F q 3 → (∀ j, j < k → zI S 137 (24 * wc + j) = nI (pK F q j) ∧ zI S 138 (24 * wc + j) = eA (pK F q j) (pA F q j) ∧ zI S 139 (24 * wc + j) = eB (pK F q j) (pB F q j)) → (∀ S', zJ [130, 136, 137, 138, 139] S0 S' → (∀ j, j ≠ 14 → zI S' 130 j = zI S0 130 j) → (∀ j, j ≠ wc → zI S' 136 j = zI S0 136 j) → (∀ j, j < 24 * wc → zI S' 137 j = zI S0 137 j ∧ zI S' 138 j = zI S0 138 j ∧ zI S' 139 j = zI S0 139 j) → zI S' 130 14 = nI (wc + 1) → jWM S' wc l (pK F q) (pA F q) (pB F q) → Q (.inl (some (.int (nI wc)))) S') → zW 6 m_M_keep 35 [some (.ref 130), some (.int x1), some (.int x2), some (.int x3), some (.int x4), some (.int x5), some (.int (nI k))] [] S Q
  | 0, k, S0, S, hS, hk, j0, jw, h14, h44, hfd, hr, hQ => by
    obtain rfl : k = l := by omega
    refine b_M_keep_35 hS ?_
    rw [h44, h14, nI_add, pk_sub (by omega), zcl9 (by omega), show wc + 1 - 1 = wc by omega]
    refine ⟨fun _ => ⟨zin (by omega) (by omega), hQ _ (((zJ3 j0 (zsub_of rfl)).I rfl).I rfl) (fun j hj => ?_) (fun j hj => ?_) (fun j hj => ?_) zI_s ⟨?_, fun j hj => ?_⟩⟩, fun h9 => absurd (nI_le (Nat.le_refl _) (by omega)) h9⟩
    · rw [zI_o hj, zI_ne _ _ (by omega), j0.2 130 rfl]
    · rw [zI_ne _ _ (by omega), zI_o hj, j0.2 136 rfl]
    · rw [zI_ne _ _ (by omega), zI_ne _ _ (by omega), zI_ne _ _ (by omega), zI_ne _ _ (by omega), zI_ne _ _ (by omega), zI_ne _ _ (by omega)]
      exact jw j hj
    · rw [zI_ne _ _ (by omega), zI_s]
    · rw [zI_ne _ _ (by omega), zI_ne _ _ (by omega), zI_ne _ _ (by omega), zI_ne _ _ (by omega), zI_ne _ _ (by omega), zI_ne _ _ (by omega)]
      exact hr j hj
  | f + 1, k, S0, S, hS, hk, j0, jw, h14, h44, hfd, hr, hQ => by
    refine b_M_keep_35 hS ?_
    obtain ⟨-, y1, y2, y3⟩ := (hfd k (by omega)).1 (by omega)
    rw [h44, h14, nI_add, pk_mul, nI_add, nI_add, zcl9 (n := wc) (by omega), zcl9 (n := 24 * wc + k) (by omega), zcl9 (n := k) (by omega), y1, y2, y3]
    refine ⟨fun h9 => absurd h9 (nI_ge (by omega) (by omega)), fun _ => ⟨zin (by omega) (by omega), zin (by omega) (by omega), zin (by omega) (by omega), zin (by omega) (by omega), zin (by omega) (by omega), zin (by omega) (by omega), ?_⟩⟩
    have j1 : zJ [137, 138, 139] S (zsI (zsI (zsI S 137 (24 * wc + k) (nI (pK F q k))) 138 (24 * wc + k) (eA (pK F q k) (pA F q k))) 139 (24 * wc + k) (eB (pK F q k) (pB F q k))) := ((zJ.rf.I rfl).I rfl).I rfl
    have e7 : ∀ j, j ≠ 24 * wc + k → zI (zsI (zsI (zsI S 137 (24 * wc + k) (nI (pK F q k))) 138 (24 * wc + k) (eA (pK F q k) (pA F q k))) 139 (24 * wc + k) (eB (pK F q k) (pB F q k))) 137 j = zI S 137 j := fun j hj => by rw [zI_ne _ _ (by omega), zI_ne _ _ (by omega), zI_o hj]
    have e8 : ∀ j, j ≠ 24 * wc + k → zI (zsI (zsI (zsI S 137 (24 * wc + k) (nI (pK F q k))) 138 (24 * wc + k) (eA (pK F q k) (pA F q k))) 139 (24 * wc + k) (eB (pK F q k) (pB F q k))) 138 j = zI S 138 j := fun j hj => by rw [zI_ne _ _ (by omega), zI_o hj, zI_ne _ _ (by omega)]
    have e9 : ∀ j, j ≠ 24 * wc + k → zI (zsI (zsI (zsI S 137 (24 * wc + k) (nI (pK F q k))) 138 (24 * wc + k) (eA (pK F q k) (pA F q k))) 139 (24 * wc + k) (eB (pK F q k) (pB F q k))) 139 j = zI S 139 j := fun j hj => by rw [zI_o hj, zI_ne _ _ (by omega), zI_ne _ _ (by omega)]
    refine w_M_k35 hwc hl f (k + 1) (j1.sh hS) (by omega) (j0.tr j1) (fun j hj => ?_) (by rw [j1.2 130 rfl]; exact h14) (by rw [j1.2 130 rfl]; exact h44) ?_ (fun j hj => ?_) hQ
    · rw [e7 j (by omega), e8 j (by omega), e9 j (by omega)]
      exact jw j hj
    · unfold zFd
      rw [j1.2 152 rfl, j1.2 153 rfl, j1.2 154 rfl, j1.2 155 rfl]
      exact hfd
    · by_cases e : j = k
      · subst e
        refine ⟨?_, ?_, ?_⟩
        · rw [zI_ne _ _ (by omega), zI_ne _ _ (by omega), zI_s]
        · rw [zI_ne _ _ (by omega), zI_s]
        · rw [zI_s]
      · rw [e7 _ (by omega), e8 _ (by omega), e9 _ (by omega)]
        exact hr j (by omega)
