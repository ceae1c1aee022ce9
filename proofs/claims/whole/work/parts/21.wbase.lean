/-! way: a text that is none leaves the ways as they were -/
theorem zFV.base0 {wc : Nat} {S S2 : ZSt} (h : zFV wc S S2) (hB : zBase S) (ht : jTape S2) (hf : zI S2 76 8 = zI S2 130 11) (hw : zI S 75 6 = nI wc) (hwc : wc ≤ 6) (hn : zI S2 75 6 = nI wc ∧ zI S2 130 14 = nI wc) : zBase S2 := by
  obtain ⟨b1, b2, b3, b4, b5, b6, b7, b8, ⟨tg, b9⟩, b10, b11⟩ := hB
  have hwn := b9.wn
  obtain ⟨k1, k2, k3⟩ := h.2.1
  have h75 := h.2.2.2.2.2.2.2
  have r := h.2.2.1
  have ec := h.2.2.2.2.2.1
  have en := h.2.2.2.2.1
  have ex := h.2.2.2.2.2.2.1
  have r90 : zR S2 90 = zR S 90 := r 90 (by omega)
  have r91 : zR S2 91 = zR S 91 := r 91 (by omega)
  have r104 : zR S2 104 = zR S 104 := r 104 (by omega)
  refine ⟨fun c j a1 a2 => ?_, ?_, ?_, ?_, ?_, ?_, ?_, h.2.2.2.1 b8, ⟨tg, ?_⟩, fun c hc => b10 c (h.stk.mp hc), ?_⟩
  · rw [h.1 c (zmemV9 a1 a2) (fun h9 => by have := b10 c h9; omega)]
    exact b1 c j a1 a2
  · exact ht
  · exact hf
  · obtain ⟨wd, w1, w2, w3, w4⟩ := b4
    have ew : wd = wc := nEq (by omega) (by omega) (w2.symm.trans hw)
    subst ew
    refine ⟨wd, w1, hn.1, hn.2, fun i hi => ?_⟩
    obtain ⟨o, ra, rb, rc, n, kd, fa, fb, c1, ⟨d0, d1, d2, d3⟩, c2, c3, c4⟩ := w4 i (by omega)
    obtain ⟨n0, n1⟩ := hwn i o c1
    refine ⟨o, ra, rb, rc, n, kd, fa, fb, by rw [r90]; exact c1, ⟨h.dyc.mpr d0, h.dyc.mpr d1, h.dyc.mpr d2, h.dyc.mpr d3⟩, c2, ?_, ?_⟩
    · have hb := d0.1
      unfold jWO zArr
      rw [ec, en, r o (by omega), h.dy d0.1 n0, h.dy d1.1 (n1 0 ra (by omega) c3.2.2.1.1), h.dy d2.1 (n1 1 rb (by omega) c3.2.2.1.2.1), h.dy d3.1 (n1 2 rc (by omega) c3.2.2.1.2.2)]
      exact c3
    · obtain ⟨e1, e2⟩ := c4
      have hn := c2.2.1
      refine ⟨by rw [k2 i (by omega)]; exact e1, fun k hk => ?_⟩
      obtain ⟨f1, f2, f3⟩ := k3 (24 * i + k) (by omega)
      rw [f1, f2, f3]
      exact e2 k hk
  · obtain ⟨tc, st, t1, t2, t3, t4, t5, t9, t6⟩ := b5
    refine ⟨tc, st, t1, t2, by rw [h75 7 (Or.inl rfl)]; exact t3, by rw [k1 15 rfl]; exact t4, by rw [k1 20 rfl]; exact t5, fun i9 h9 => by rw [r91]; exact t9 i9 h9, fun i hi => ?_⟩
    obtain ⟨o2, cs, c1, ⟨g1, ra, rb, rs, g2, ⟨g3, g4⟩, ⟨g5, g6⟩, g7⟩, c3, f, c4, c5⟩ := t6 i hi
    refine ⟨o2, cs, by rw [r91]; exact c1, ⟨g1, ra, rb, rs, g2, ⟨h.ok g3, h.ok g4⟩, ⟨h.stk.mpr g5, g6⟩, ?_⟩, by rw [h.at (c := 142) b10 rfl]; exact c3, f, c4.cg (h.at b10 rfl) (h.at b10 rfl) (h.at b10 rfl), c5⟩
    unfold jTO zArr
    rw [ec, en, r o2 (by omega), h.dy g3.1 g3.2, h.dy g4.1 g4.2]
    exact g7
  · obtain ⟨ic, i1, i2, i3, i4, i5⟩ := b6
    have io : ∀ {o rs}, jIO S o rs → jIO S2 o rs := fun {o rs} hio => by
      obtain ⟨⟨a1, a2⟩, a3⟩ := hio
      have := a1.1
      refine ⟨⟨h.dyc.mpr a1, by rw [ec]; exact a2⟩, fun k hk hk3 => ?_⟩
      obtain ⟨c1, c2, c3, c4⟩ := a3 k hk hk3
      exact ⟨by rw [r o (by omega)]; exact c1, h.dyc.mpr c2, by unfold zArr; rw [ec, en]; exact ⟨c3, c4⟩⟩
    refine ⟨ic, i1, by rw [h75 10 (Or.inr rfl)]; exact i2, by rw [k1 4 rfl]; exact i3, fun i o ho => ?_, fun i hi => ?_⟩
    · rw [r104] at ho
      obtain ⟨a1, rs, a2⟩ := i4 i o ho
      exact ⟨a1, rs, io a2⟩
    · obtain ⟨o, rs, a1, a2, a3⟩ := i5 i hi
      refine ⟨o, rs, by rw [r104]; exact a1, io a2, ?_⟩
      obtain ⟨t1, t2, t3⟩ := b9.2.2.1 i o a1
      have dk : ∀ k, k < 12 → k ≠ 3 → zI S2 (rs k) = zI S (rs k) := fun k hk hk3 => by
        obtain ⟨c1, c2, c3⟩ := a2.2 k hk hk3
        refine h.dy c2.1 (fun h9 => ?_)
        obtain ⟨j, e1, e2⟩ := b9.stk h9
        have := t3 k (rs k) hk c1
        omega
      have do' : zI S2 o = zI S o := h.dy a2.1.1.1 (fun h9 => by
        obtain ⟨j, e1, e2⟩ := b9.stk h9
        omega)
      unfold jSt
      rw [do', dk 0 (by omega) (by omega), dk 1 (by omega) (by omega), dk 2 (by omega) (by omega), dk 4 (by omega) (by omega), dk 5 (by omega) (by omega), dk 6 (by omega) (by omega), dk 7 (by omega) (by omega), dk 8 (by omega) (by omega), dk 9 (by omega) (by omega), dk 10 (by omega) (by omega), dk 11 (by omega) (by omega), h.at (c := 133) b10 rfl]
      exact a3
  · rw [k1 34 rfl]
    exact b7
  · obtain ⟨g1, g2, g3, g4⟩ := b9
    refine ⟨fun i o ho => ?_, fun i o ho => ?_, fun i o ho => ?_, fun o ho h5 => ?_⟩
    · rw [r90] at ho
      obtain ⟨a1, a2, a3⟩ := g1 i o ho
      obtain ⟨x1, x2⟩ := hwn i o ho
      refine ⟨a1, a2, fun k q hk hq => a3 k q hk ?_⟩
      by_cases e : o = 125
      · exfalso
        rw [e] at ho
        have := b11.2.1 _ _ (by omega) ho
        omega
      · rw [r o e] at hq
        exact hq
    · rw [r91] at ho
      obtain ⟨a1, a2, a3⟩ := g2 i o ho
      refine ⟨a1, a2, fun k q hk hq => a3 k q hk ?_⟩
      by_cases e : o = 125
      · exfalso
        rw [e] at ho
        have := b11.2.1 _ _ (by omega) ho
        omega
      · rw [r o e] at hq
        exact hq
    · rw [r104] at ho
      obtain ⟨a1, a2, a3⟩ := g3 i o ho
      refine ⟨a1, a2, fun k q hk hq => a3 k q hk ?_⟩
      by_cases e : o = 125
      · exfalso
        rw [e] at ho
        have := b11.2.1 _ _ (by omega) ho
        omega
      · rw [r o e] at hq
        exact hq
    · rw [ec] at h5
      rw [r91]
      exact g4 o ho h5
  · exact h.wf b11
