/-! Structures as they were, while tape, readers and the count of images change -/
def lC : List Nat := [75, 76, 77, 78, 79, 80, 81, 82, 83, 84, 85, 86, 87, 88, 89, 92, 93, 94, 95, 96, 97, 98, 99, 100, 101, 102, 103, 105, 106, 107, 108, 109, 110, 111, 112, 113, 114, 115, 116, 117, 118, 119, 120, 121, 122, 123, 124, 125, 126, 127, 128, 129, 130, 131, 132, 134, 135, 136, 137, 138, 139, 144, 145, 146, 147, 148, 149, 150, 151, 152, 153, 154, 155, 156, 157, 158, 159, 160]
def zKT (S S' : ZSt) : Prop := (∀ j, zmem j [14, 15, 20, 34] = true → zI S' 130 j = zI S 130 j) ∧ (∀ q, q < 6 → zI S' 136 q = zI S 136 q) ∧ ∀ q, q < 144 → zI S' 137 q = zI S 137 q ∧ zI S' 138 q = zI S 138 q ∧ zI S' 139 q = zI S 139 q
def zFT (S S2 : ZSt) : Prop := (∀ c, zmem c lC = false → ¬ zStk S c → zI S2 c = zI S c) ∧ zKT S S2 ∧ (∀ c, c ≠ 125 → zR S2 c = zR S c) ∧ (zSwp (zR S 125) → zSwp (zR S2 125)) ∧ zn S2 = zn S ∧ zc S2 = zc S ∧ zx S2 = zx S ∧ ∀ j, j = 6 ∨ j = 7 → zI S2 75 j = zI S 75 j
theorem zFT.at {S S2 : ZSt} (h : zFT S S2) (hD : zStD S) {c : Nat} (hl : (!zmem c lC && Nat.blt c 162) = true) : zI S2 c = zI S c := by
  obtain ⟨h1, h2⟩ := zand hl
  have h3 : c < 162 := Nat.le_of_ble_eq_true h2
  refine h.1 c ?_ (fun h9 => by have := hD c h9; omega)
  cases hb : zmem c lC with
  | false => rfl
  | true =>
    rw [hb] at h1
    cases h1
theorem zFT.dy {S S2 : ZSt} (h : zFT S S2) {c : Nat} (hc : 162 ≤ c) (hs : ¬ zStk S c) : zI S2 c = zI S c := h.1 c (zmem_big (b := 162) rfl hc) hs
theorem zFT.stk {S S2 : ZSt} (h : zFT S S2) {c : Nat} : zStk S2 c ↔ zStk S c := ⟨fun h9 => zStk_of h.2.2.2.2.2.1 h.2.2.1 h9, fun h9 => zStk_of h.2.2.2.2.2.1.symm (fun c hc => (h.2.2.1 c hc).symm) h9⟩
theorem zFT.dyc {S S2 : ZSt} (h : zFT S S2) {c : Nat} : zDy S2 c ↔ zDy S c := by
  unfold zDy
  rw [h.2.2.2.2.2.2.1]
theorem zFT.ok {S S2 : ZSt} (h : zFT S S2) {c : Nat} (hc : zOkC S c) : zOkC S2 c := ⟨hc.1, fun h9 => hc.2 (h.stk.mp h9)⟩
theorem zFT.wf {S S2 : ZSt} (h : zFT S S2) (hw : zWf S) : zWf S2 := ⟨fun o k q ho hq => by
  rw [h.2.2.2.2.2.2.1]
  rw [h.2.2.1 o ho] at hq
  exact hw.1 o k q ho hq, fun c i hc hq => by
  rw [h.2.2.1 c hc] at hq
  exact hw.2.1 c i hc hq, fun c i o hc ho => by
  rw [h.2.2.1 c (by omega)] at ho
  exact hw.2.2 c i o hc ho⟩
theorem zmemC9 {c : Nat} (h1 : 1 ≤ c) (h2 : c < 75) : zmem c lC = false := by
  have hall : (List.range 75).all (fun c => !zmem c lC) = true := by decide +kernel
  have := List.all_eq_true.mp hall c (List.mem_range.mpr h2)
  cases hb : zmem c lC with
  | false => rfl
  | true =>
    rw [hb] at this
    cases this
theorem zFT.base {S S2 : ZSt} (h : zFT S S2) (hB : zBase S) (ht : jTape S2) (hf : zI S2 76 8 = zI S2 130 11) (hi : ∃ ic, ic ≤ 3 ∧ zI S2 75 10 = nI ic ∧ zI S2 130 4 = nI ic ∧ ∀ jc, zI S 75 10 = nI jc → jc ≤ 3 → ic ≤ jc) : zBase S2 := by
  obtain ⟨b1, b2, b3, b4, b5, b6, b7, b8, ⟨tg, b9⟩, b10, b11⟩ := hB
  have hwn := b9.wn
  obtain ⟨k1, k2, k3⟩ := h.2.1
  have h75 := h.2.2.2.2.2.2.2
  have r := h.2.2.1
  have ec := h.2.2.2.2.2.1
  have en := h.2.2.2.2.1
  have ex := h.2.2.2.2.2.2.1
  have r90 : zR S2 90 = zR S 90 := r 90 (by omega)
  have r91 : zR S2 91 = zR S 91 := r 91 (by omega)
  have r104 : zR S2 104 = zR S 104 := r 104 (by omega)
  refine ⟨fun c j a1 a2 => ?_, ?_, ?_, ?_, ?_, ?_, ?_, h.2.2.2.1 b8, ⟨tg, ?_⟩, fun c hc => b10 c (h.stk.mp hc), ?_⟩
  · rw [h.1 c (zmemC9 a1 a2) (fun h9 => by have := b10 c h9; omega)]
    exact b1 c j a1 a2
  · exact ht
  · exact hf
  · obtain ⟨wc, w1, w2, w3, w4⟩ := b4
    refine ⟨wc, w1, by rw [h75 6 (Or.inl rfl)]; exact w2, by rw [k1 14 rfl]; exact w3, fun i hi => ?_⟩
    obtain ⟨o, ra, rb, rc, n, kd, fa, fb, c1, ⟨d0, d1, d2, d3⟩, c2, c3, c4⟩ := w4 i hi
    obtain ⟨n0, n1⟩ := hwn i o c1
    refine ⟨o, ra, rb, rc, n, kd, fa, fb, by rw [r90]; exact c1, ⟨h.dyc.mpr d0, h.dyc.mpr d1, h.dyc.mpr d2, h.dyc.mpr d3⟩, c2, ?_, ?_⟩
    · have hb := d0.1
      unfold jWO zArr
      rw [ec, en, r o (by omega), h.dy d0.1 n0, h.dy d1.1 (n1 0 ra (by omega) c3.2.2.1.1), h.dy d2.1 (n1 1 rb (by omega) c3.2.2.1.2.1), h.dy d3.1 (n1 2 rc (by omega) c3.2.2.1.2.2)]
      exact c3
    · obtain ⟨e1, e2⟩ := c4
      have hn := c2.2.1
      refine ⟨by rw [k2 i (by omega)]; exact e1, fun k hk => ?_⟩
      obtain ⟨f1, f2, f3⟩ := k3 (24 * i + k) (by omega)
      rw [f1, f2, f3]
      exact e2 k hk
  · obtain ⟨tc, st, t1, t2, t3, t4, t5, t9, t6⟩ := b5
    refine ⟨tc, st, t1, t2, by rw [h75 7 (Or.inr rfl)]; exact t3, by rw [k1 15 rfl]; exact t4, by rw [k1 20 rfl]; exact t5, fun i9 h9 => by rw [r91]; exact t9 i9 h9, fun i hi => ?_⟩
    obtain ⟨o2, cs, c1, ⟨g1, ra, rb, rs, g2, ⟨g3, g4⟩, ⟨g5, g6⟩, g7⟩, c3, f, c4, c5⟩ := t6 i hi
    refine ⟨o2, cs, by rw [r91]; exact c1, ⟨g1, ra, rb, rs, g2, ⟨h.ok g3, h.ok g4⟩, ⟨h.stk.mpr g5, g6⟩, ?_⟩, by rw [h.at (c := 142) b10 rfl]; exact c3, f, c4.cg (h.at b10 rfl) (h.at b10 rfl) (h.at b10 rfl), c5⟩
    unfold jTO zArr
    rw [ec, en, r o2 (by omega), h.dy g3.1 g3.2, h.dy g4.1 g4.2]
    exact g7
  · obtain ⟨ic, i1, i2, i3, i4, i5⟩ := b6
    have io : ∀ {o rs}, jIO S o rs → jIO S2 o rs := fun {o rs} hio => by
      obtain ⟨⟨a1, a2⟩, a3⟩ := hio
      have := a1.1
      refine ⟨⟨h.dyc.mpr a1, by rw [ec]; exact a2⟩, fun k hk hk3 => ?_⟩
      obtain ⟨c1, c2, c3, c4⟩ := a3 k hk hk3
      exact ⟨by rw [r o (by omega)]; exact c1, h.dyc.mpr c2, by unfold zArr; rw [ec, en]; exact ⟨c3, c4⟩⟩
    obtain ⟨ic2, y1, y2, y3, y4⟩ := hi
    have yle := y4 ic i2 i1
    refine ⟨ic2, y1, y2, y3, fun i o ho => ?_, fun i hi => ?_⟩
    · rw [r104] at ho
      obtain ⟨a1, rs, a2⟩ := i4 i o ho
      exact ⟨a1, rs, io a2⟩
    · obtain ⟨o, rs, a1, a2, a3⟩ := i5 i (by omega)
      refine ⟨o, rs, by rw [r104]; exact a1, io a2, ?_⟩
      obtain ⟨t1, t2, t3⟩ := b9.2.2.1 i o a1
      have dk : ∀ k, k < 12 → k ≠ 3 → zI S2 (rs k) = zI S (rs k) := fun k hk hk3 => by
        obtain ⟨c1, c2, c3⟩ := a2.2 k hk hk3
        refine h.dy c2.1 (fun h9 => ?_)
        obtain ⟨j, e1, e2⟩ := b9.stk h9
        have := t3 k (rs k) hk c1
        omega
      have do' : zI S2 o = zI S o := h.dy a2.1.1.1 (fun h9 => by
        obtain ⟨j, e1, e2⟩ := b9.stk h9
        omega)
      unfold jSt
      rw [do', dk 0 (by omega) (by omega), dk 1 (by omega) (by omega), dk 2 (by omega) (by omega), dk 4 (by omega) (by omega), dk 5 (by omega) (by omega), dk 6 (by omega) (by omega), dk 7 (by omega) (by omega), dk 8 (by omega) (by omega), dk 9 (by omega) (by omega), dk 10 (by omega) (by omega), dk 11 (by omega) (by omega), h.at (c := 133) b10 rfl]
      exact a3
  · rw [k1 34 rfl]
    exact b7
  · obtain ⟨g1, g2, g3, g4⟩ := b9
    refine ⟨fun i o ho => ?_, fun i o ho => ?_, fun i o ho => ?_, fun o ho h5 => ?_⟩
    · rw [r90] at ho
      obtain ⟨a1, a2, a3⟩ := g1 i o ho
      obtain ⟨x1, x2⟩ := hwn i o ho
      refine ⟨a1, a2, fun k q hk hq => a3 k q hk ?_⟩
      by_cases e : o = 125
      · exfalso
        rw [e] at ho
        have := b11.2.1 _ _ (by omega) ho
        omega
      · rw [r o e] at hq
        exact hq
    · rw [r91] at ho
      obtain ⟨a1, a2, a3⟩ := g2 i o ho
      refine ⟨a1, a2, fun k q hk hq => a3 k q hk ?_⟩
      by_cases e : o = 125
      · exfalso
        rw [e] at ho
        have := b11.2.1 _ _ (by omega) ho
        omega
      · rw [r o e] at hq
        exact hq
    · rw [r104] at ho
      obtain ⟨a1, a2, a3⟩ := g3 i o ho
      refine ⟨a1, a2, fun k q hk hq => a3 k q hk ?_⟩
      by_cases e : o = 125
      · exfalso
        rw [e] at ho
        have := b11.2.1 _ _ (by omega) ho
        omega
      · rw [r o e] at hq
        exact hq
    · rw [ec] at h5
      rw [r91]
      exact g4 o ho h5
  · exact h.wf b11
theorem zFT.next {L n : Nat} {S S2 : ZSt} (h : zInv L n S) (k : zFT S S2) (hS : zSh S2) (hJ : jCore S2) (ht : jTape S2) (hf : zI S2 76 8 = zI S2 130 11) (hi : ∃ ic, ic ≤ 3 ∧ zI S2 75 10 = nI ic ∧ zI S2 130 4 = nI ic ∧ ∀ jc, zI S 75 10 = nI jc → jc ≤ 3 → ic ≤ jc) (hu : zu S2 ≤ zu S + 1) (hz : zz S2 ≤ zz S + 50) : zInv L (n + 1) S2 := by
  obtain ⟨-, -, h3, h4, h5, h6, h7⟩ := h
  exact ⟨hS, hJ, k.base h3 ht hf hi, by rw [k.2.2.2.2.2.1]; exact h4, by rw [k.2.2.2.2.1]; exact h5, by omega, by omega⟩
theorem zInv.ic {L n : Nat} {S : ZSt} (h : zInv L n S) {S2 : ZSt} (e1 : zI S2 75 10 = zI S 75 10) (e2 : zI S2 130 4 = zI S 130 4) : ∃ ic, ic ≤ 3 ∧ zI S2 75 10 = nI ic ∧ zI S2 130 4 = nI ic ∧ ∀ jc, zI S 75 10 = nI jc → jc ≤ 3 → ic ≤ jc := by
  obtain ⟨ic, i1, i2, i3, -⟩ := h.2.2.1.2.2.2.2.2.1
  refine ⟨ic, i1, e1.trans i2, e2.trans i3, fun jc hj h3 => ?_⟩
  have := nEq (a := ic) (b := jc) (by omega) (by omega) (i2.symm.trans hj)
  omega
theorem s_feed {L : Nat} : t_feed (zInv L) := fun n S _ _ _ _ _ h => zC.imp (p_feed h.1 h.2.2.1.2.1) (fun o S1 r => r.imp (fun kk b S2 a => by
  obtain ⟨e, ⟨f1, f2, f3, f4⟩, ht⟩ := a
  have hS2 : zSh S2 := zSh_of f1 h.1
  have eR : zR S2 = zR S := by show S2.2.2.1 = S.2.2.1; rw [f1]
  have en : zn S2 = zn S := by show S2.2.2.2.1 = S.2.2.2.1; rw [f1]
  have ec : zc S2 = zc S := by show S2.2.2.2.2.1 = S.2.2.2.2.1; rw [f1]
  have ex : zx S2 = zx S := by show S2.2.2.2.2.2.1 = S.2.2.2.2.2.1; rw [f1]
  have eu : zu S2 = zu S := by show S2.2.2.2.2.2.2.1 = S.2.2.2.2.2.2.1; rw [f1]
  have ez : zz S2 = zz S := by show S2.2.2.2.2.2.2.2 = S.2.2.2.2.2.2.2; rw [f1]
  have nb : ∀ c, zmem c lC = false → c ≠ 76 ∧ c ≠ 77 ∧ c ≠ 130 ∧ c ≠ 134 := fun c hc => ⟨fun e => (by rw [e] at hc; cases hc), fun e => (by rw [e] at hc; cases hc), fun e => (by rw [e] at hc; cases hc), fun e => (by rw [e] at hc; cases hc)⟩
  have k : zFT S S2 := ⟨fun c hc _ => f2 c (nb c hc).1 (nb c hc).2.1 (nb c hc).2.2.1 (nb c hc).2.2.2, ⟨fun j hj => f4 j (fun e => (by rw [e] at hj; cases hj)) (fun e => (by rw [e] at hj; cases hj)), fun q _ => by rw [f2 136 (by omega) (by omega) (by omega) (by omega)], fun q _ => ⟨by rw [f2 137 (by omega) (by omega) (by omega) (by omega)], by rw [f2 138 (by omega) (by omega) (by omega) (by omega)], by rw [f2 139 (by omega) (by omega) (by omega) (by omega)]⟩⟩, fun c _ => by rw [eR], fun h9 => by rw [eR]; exact h9, en, ec, ex, fun j _ => by rw [f2 75 (by omega) (by omega) (by omega) (by omega)]⟩
  refine ⟨e, hS2, k.next h hS2 (jCore_cong (fun c hc => f2 c (fun e => (by rw [e] at hc; cases hc)) (fun e => (by rw [e] at hc; cases hc)) (fun e => (by rw [e] at hc; cases hc)) (fun e => (by rw [e] at hc; cases hc))) h.2.1) ht ?_ (h.ic (by rw [f2 75 (by omega) (by omega) (by omega) (by omega)]) (f4 4 (by omega) (by omega))) (by omega) (by omega)⟩
  rw [f3 8 (by omega), f4 11 (by omega) (by omega)]
  exact h.hf))
/-! A state told anew -/
theorem jW.mv {off n hi : Nat} {g g' f f' : Nat → Int32} (h : jW off n hi g f) (hb : off + n ≤ 225) (hf : ∀ j, j < 225 → f' j = f j) (hg : ∀ j, j < n → g' j = g j) : jW off n hi g' f' := fun j hj => by
  rw [hg j hj, hf (off + j) (by omega)]
  exact h j hj
theorem jSt.mv {I I' : Nat → Nat → Int32} {cs cv ch cp co clh clp cw cm cg ct ck ds dv dh dp do' dlh dlp dw dm dg dt dk : Nat} {f f' : Nat → Int32} (h : jSt I cs cv ch cp co clh clp cw cm cg ct ck f) (hf : ∀ j, j < 225 → f' j = f j) (e3 : I' ds 3 = I cs 3) (r0 : ∀ j, j < 6 → I' dv j = I cv j) (r1 : ∀ j, j < 12 → I' dh j = I ch j) (r2 : ∀ j, j < 24 → I' dp j = I cp j) (r4 : ∀ j, j < 4 → I' do' j = I co j) (r5 : ∀ j, j < 12 → I' dlh j = I clh j) (r6 : ∀ j, j < 24 → I' dlp j = I clp j) (r7 : ∀ j, j < 24 → I' dw j = I cw j) (r8 : ∀ j, j < 36 → I' dm j = I cm j) (r9 : ∀ j, j < 36 → I' dg j = I cg j) (r10 : ∀ j, j < 36 → I' dt j = I ct j) (r11 : ∀ j, j < 10 → I' dk j = I ck j) : jSt I' ds dv dh dp do' dlh dlp dw dm dg dt dk f' := by
  obtain ⟨a, b, c, d, e, g, i, k, l⟩ := h
  refine ⟨⟨fun j hj => ?_, ?_⟩, b.mv (by omega) hf r1, c.mv (by omega) hf r2, ⟨?_, ?_, fun h6 => ?_⟩, e.mv (by omega) hf r7, g.mv (by omega) hf r8, i.mv (by omega) hf r9, k.mv (by omega) hf r10, fun j hj => ?_⟩
  · rw [r0 j hj, hf j (by omega)]
    exact a.1 j hj
  · unfold jVal
    rw [hf 0 (by omega), hf 1 (by omega), hf 2 (by omega), hf 3 (by omega), hf 4 (by omega), hf 5 (by omega)]
    exact a.2
  · rw [hf 6 (by omega)]
    exact d.1
  · rw [hf 6 (by omega), e3]
    exact d.2.1
  · rw [hf 6 (by omega)] at h6
    obtain ⟨x, y, z⟩ := d.2.2 h6
    refine ⟨fun j hj => ?_, y.mv (by omega) hf r5, z.mv (by omega) hf r6⟩
    rw [r4 j hj, hf (7 + j) (by omega)]
    exact x j hj
  · rw [r11 j hj, hf (215 + j) (by omega)]
    exact l j hj
/-! restore -/
def rsO (k : Nat) : Nat := if k < 3 then 93 + k else 92 + k
theorem rsO_t {S : ZSt} (hS : zSh S) : ∀ k, k < 12 → k ≠ 3 → zR S 92 k = some (rsO k) ∧ zArr S (rsO k) (imL k) := fun k hk hk3 => by
  have h : ((List.range 12).all fun k => Nat.beq k 3 || (decide (zTr 92 k = some (rsO k)) && (Nat.beq (zTc (rsO k)) 100 && (Nat.beq (zTn (rsO k)) (imL k) && (Nat.blt 92 (rsO k) && Nat.blt (rsO k) 104))))) = true := by decide +kernel
  have h := List.all_eq_true.mp h k (List.mem_range.mpr hk)
  have n3 : Nat.beq k 3 = false := by
    cases hb : Nat.beq k 3 with
    | false => rfl
    | true => exact absurd (Nat.eq_of_beq_eq_true hb) hk3
  rw [n3, Bool.false_or] at h
  obtain ⟨h1, h⟩ := zand h
  obtain ⟨h2, h⟩ := zand h
  obtain ⟨h3, h⟩ := zand h
  obtain ⟨h4, h5⟩ := zand h
  have h5 : rsO k < 104 := Nat.le_of_ble_eq_true h5
  have h4 : 92 < rsO k := Nat.le_of_ble_eq_true h4
  exact ⟨hS.2.2.1 _ _ _ (of_decide_eq_true h1), (hS.1 _ (by omega)).trans (Nat.eq_of_beq_eq_true h2), (hS.2.1 _ (by omega) (by omega)).trans (Nat.eq_of_beq_eq_true h3)⟩
theorem rsO_b {k : Nat} (hk : k < 12) : 92 < rsO k ∧ rsO k < 104 := by
  unfold rsO
  split <;> omega
theorem rsO_inj {k k' : Nat} (h3 : k ≠ 3) (h3' : k' ≠ 3) (h : rsO k = rsO k') : k = k' := by
  unfold rsO at h
  split at h <;> split at h <;> omega
theorem zFK0 {S : ZSt} {v : Int32} : zFK S (zsI S 130 0 v) := ⟨fun c hc _ => zI_ne _ _ (fun e => (by rw [e] at hc; cases hc)), ⟨fun j hj => zI_o (by have := zkey hj; omega), fun q _ => by rw [zI_ne _ _ (by omega)], fun q _ => ⟨by rw [zI_ne _ _ (by omega)], by rw [zI_ne _ _ (by omega)], by rw [zI_ne _ _ (by omega)]⟩⟩, fun _ _ => rfl, id, rfl, rfl, rfl⟩
set_option maxHeartbeats 1000000 in
theorem s_restore {L : Nat} : t_restore (zInv L) := fun n S h => by
  obtain ⟨ic, i1, i2, i3, i4, i5⟩ := h.2.2.1.2.2.2.2.2.1
  have hS := h.1
  by_cases c0 : ic = 0
  · subst c0
    refine b_N_restore hS ⟨fun h9 => absurd h9 (by rw [i2]; decide), fun _ => ⟨_, rfl, ⟨rfl, rfl, rfl, hS⟩, b_M_restore hS ⟨fun h9 => absurd (by rw [i3]; rfl) h9, fun _ => ⟨_, rfl, rfl, hS, h.next zFK0 hS (jCore_cong (fun c hc => zI_ne _ _ (fun e => (by rw [e] at hc; cases hc))) h.2.1) (Nat.le_succ _) (Nat.le_add_right _ _)⟩⟩⟩⟩
  have hD := h.D
  obtain ⟨tg, g⟩ := h.2.2.1.2.2.2.2.2.2.2.2.1
  obtain ⟨o, rs, a1, a2, a3⟩ := i5 (ic - 1) (by omega)
  obtain ⟨t1, t2, t3⟩ := g.2.2.1 _ _ a1
  have ho := a2.1.1.1
  have hr := fun k hk hk3 => a2.2 k hk hk3
  have n104 : zn S 104 = 3 := hS.2.1 104 (by omega) (by omega)
  have s1 : nI ic - nI 1 = nI (ic - 1) := pk_sub (by omega)
  have hb : zI S o 3 = 0 ∨ zI S o 3 = 1 := by
    obtain ⟨-, -, -, d, -⟩ := a3
    obtain ⟨m, m1, m2, m3⟩ := d.1
    rw [d.2.1, m3]
    rcases (show m = 0 ∨ m = 1 by omega) with e | e
    · exact Or.inl (by rw [e]; rfl)
    · exact Or.inr (by rw [e]; rfl)
  have di : zDi 92 o rsO rs := ⟨by omega, fun k k' hk hk' h3 h3' e => rsO_inj h3 h3' e, fun k hk hk3 => by
    have b := rsO_b hk
    have := (hr k hk hk3).2.1.1
    exact ⟨by omega, by omega, by omega, fun k' hk' hk3' => by
      have := (hr k' hk' hk3').2.1.1
      omega⟩⟩
  refine b_N_restore hS ⟨fun _ => ⟨hS.1 104 (by omega), by rw [i2, s1, n104]; exact zin (by omega) (by omega), fun h9 => ?_, fun r11 h9 => ?_⟩, fun h9 => absurd ?_ h9⟩
  · rw [i2, s1, zcl9 (by omega), a1] at h9
    cases h9
  · rw [i2, s1, zcl9 (by omega), a1] at h9
    cases h9
    refine w_St_copyFrom hS (hS.1 92 (by omega)) a2.1.2 (rsO_t hS) (fun k hk hk3 => ⟨(hr k hk hk3).1, (hr k hk hk3).2.2⟩) di hb (fun S1 p => b_N_restore_21 (p.sh hS) ?_)
    have hS1 := p.sh hS
    have fx : ∀ c, (c ≤ 92 ∨ 104 ≤ c) → c ≠ 92 → zI S1 c = zI S c := fun c hc h92 => p.2.1 c h92 (fun k hk hk3 e => by have := rsO_b hk; omega)
    rw [fx 75 (by omega) (by omega), i2, s1]
    refine ⟨_, rfl, ⟨?_, ?_, ?_, hS1⟩, ?_⟩
    · rw [zI_ne _ _ (by omega)]
      exact fx 0 (by omega) (by omega)
    · show zc S1 0 = zc S 0
      rw [p.c]
    · show zn S1 0 = zn S 0
      rw [p.n]
    have q4 : zI (zsI S1 75 10 (nI (ic - 1))) 130 4 = nI ic := by
      rw [zI_ne _ _ (by omega), fx 130 (by omega) (by omega)]
      exact i3
    refine b_M_restore (S := zsI S1 75 10 (nI (ic - 1))) hS1 ⟨fun _ => ?_, fun h9 => absurd ?_ h9⟩
    · rw [q4, s1]
      refine w_M_re16 (ic := ic - 1) (by omega) 225 0 (S := zsI (zsI (zsI S1 75 10 (nI (ic - 1))) 130 0 (nI 0)) 130 4 (nI (ic - 1))) hS1 zI_s (by omega) ⟨rfl, fun _ _ => rfl, fun j => ?_⟩ (fun S2 p2 => ?_)
      · unfold reF
        rw [if_neg (by omega)]
      have hS2 : zSh S2 := zSh_of p2.1 hS1
      have e2 : ∀ c, c ≠ 132 → c ≠ 130 → c ≠ 75 → zI S2 c = zI S1 c := fun c x y z => by
        rw [p2.2.1 c x, zI_ne _ _ y, zI_ne _ _ y, zI_ne _ _ z]
      have e130 : ∀ j, j ≠ 0 → j ≠ 4 → zI S2 130 j = zI S 130 j := fun j x y => by
        rw [p2.2.1 130 (by omega), zI_o y, zI_o x, zI_ne _ _ (by omega), fx 130 (by omega) (by omega)]
      have e75 : ∀ j, j ≠ 10 → zI S2 75 j = zI S 75 j := fun j x => by
        rw [p2.2.1 75 (by omega), zI_ne _ _ (by omega), zI_ne _ _ (by omega), zI_o x, fx 75 (by omega) (by omega)]
      have e132 : ∀ j, j < 225 → zI S2 132 j = zI S 133 (225 * (ic - 1) + j) := fun j hj => by
        rw [p2.2.2 j]
        unfold reF
        rw [if_pos hj, zI_ne _ _ (by omega), zI_ne _ _ (by omega), zI_ne _ _ (by omega), fx 133 (by omega) (by omega)]
      have f2 : S2.2 = S.2 := p2.1.trans p.1
      have eR : zR S2 = zR S := by show S2.2.2.1 = S.2.2.1; rw [f2]
      have en : zn S2 = zn S := by show S2.2.2.2.1 = S.2.2.2.1; rw [f2]
      have ec : zc S2 = zc S := by show S2.2.2.2.2.1 = S.2.2.2.2.1; rw [f2]
      have ex : zx S2 = zx S := by show S2.2.2.2.2.2.1 = S.2.2.2.2.2.1; rw [f2]
      have eu : zu S2 = zu S := by show S2.2.2.2.2.2.2.1 = S.2.2.2.2.2.2.1; rw [f2]
      have ez : zz S2 = zz S := by show S2.2.2.2.2.2.2.2 = S.2.2.2.2.2.2.2; rw [f2]
      have row : ∀ k, k < 12 → k ≠ 3 → ∀ j, j < imL k → zI S2 (rsO k) j = zI S (rs k) j := fun k hk hk3 j hj => by
        have := rsO_b hk
        rw [e2 _ (by omega) (by omega) (by omega)]
        exact p.2.2.2.2 k hk hk3 j hj
      have q10 : zI S2 75 10 = nI (ic - 1) := by rw [p2.2.1 75 (by omega), zI_ne _ _ (by omega), zI_ne _ _ (by omega), zI_s]
      have q4' : zI S2 130 4 = nI (ic - 1) := by rw [p2.2.1 130 (by omega), zI_s]
      have out : ∀ c, (c ≤ 92 ∨ 104 ≤ c) → c ≠ 92 → c ≠ 132 → c ≠ 130 → c ≠ 75 → zI S2 c = zI S c := fun c x1 x2 x3 x4 x5 => (e2 c x3 x4 x5).trans (fx c x1 x2)
      have nb : ∀ c, zmem c lC = false → (c ≤ 92 ∨ 104 ≤ c) ∧ c ≠ 92 ∧ c ≠ 132 ∧ c ≠ 130 ∧ c ≠ 75 := fun c hc => by
        refine ⟨Classical.not_not.mp (fun h9 => ?_), fun e => (by rw [e] at hc; cases hc), fun e => (by rw [e] at hc; cases hc), fun e => (by rw [e] at hc; cases hc), fun e => (by rw [e] at hc; cases hc)⟩
        have hall : ((List.range 12).all fun j => zmem (92 + j) lC) = true := by decide +kernel
        have hm := List.all_eq_true.mp hall (c - 92) (List.mem_range.mpr (by omega))
        have hm : zmem (92 + (c - 92)) lC = true := hm
        rw [show 92 + (c - 92) = c by omega, hc] at hm
        cases hm
      have k : zFT S S2 := ⟨fun c hc _ => out c (nb c hc).1 (nb c hc).2.1 (nb c hc).2.2.1 (nb c hc).2.2.2.1 (nb c hc).2.2.2.2, ⟨fun j hj => e130 j (fun e => (by rw [e] at hj; cases hj)) (fun e => (by rw [e] at hj; cases hj)), fun q _ => by rw [out 136 (by omega) (by omega) (by omega) (by omega) (by omega)], fun q _ => ⟨by rw [out 137 (by omega) (by omega) (by omega) (by omega) (by omega)], by rw [out 138 (by omega) (by omega) (by omega) (by omega) (by omega)], by rw [out 139 (by omega) (by omega) (by omega) (by omega) (by omega)]⟩⟩, fun c _ => by rw [eR], fun h9 => by rw [eR]; exact h9, en, ec, ex, fun j hj => e75 j (by omega)⟩
      have hJ2 : jCore S2 := by
        refine ⟨a3.mv e132 ?_ (row 0 (by omega) (by omega)) (row 1 (by omega) (by omega)) (row 2 (by omega) (by omega)) (row 4 (by omega) (by omega)) (row 5 (by omega) (by omega)) (row 6 (by omega) (by omega)) (row 7 (by omega) (by omega)) (row 8 (by omega) (by omega)) (row 9 (by omega) (by omega)) (row 10 (by omega) (by omega)) (row 11 (by omega) (by omega)), fun j hj => ?_⟩
        · rw [e2 92 (by omega) (by omega) (by omega), p.2.2.2.1, if_pos (by omega)]
        · rw [out 105 (by omega) (by omega) (by omega) (by omega) (by omega), out 131 (by omega) (by omega) (by omega) (by omega) (by omega)]
          exact h.2.1.2 j hj
      have hT2 : jTape S2 := by
        have ht := h.2.2.1.2.1
        unfold jTape at ht ⊢
        rw [out 76 (by omega) (by omega) (by omega) (by omega) (by omega), out 77 (by omega) (by omega) (by omega) (by omega) (by omega), out 134 (by omega) (by omega) (by omega) (by omega) (by omega), e130 5 (by omega) (by omega)]
        exact ht
      refine ⟨_, rfl, rfl, hS2, k.next h hS2 hJ2 hT2 ?_ ⟨ic - 1, by omega, q10, q4', fun jc hj h3 => ?_⟩ (by omega) (by omega)⟩
      · rw [out 76 (by omega) (by omega) (by omega) (by omega) (by omega), e130 11 (by omega) (by omega)]
        exact h.hf
      · have := nEq (a := ic) (b := jc) (by omega) (by omega) (i2.symm.trans hj)
        omega
    · rw [q4]
      exact fun e => c0 (nEq (b := 0) (by omega) (by omega) e)
  · rw [i2]
    exact nI_lt (a := 0) (show 0 < ic by omega) (by omega)
