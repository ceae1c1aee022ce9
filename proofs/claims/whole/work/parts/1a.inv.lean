/-! What stays true from call to call -/
def lX : List Nat := [92, 93, 94, 95, 96, 97, 98, 99, 100, 101, 102, 103, 105, 106, 107, 108, 109, 110, 111, 112, 113, 114, 115, 116, 117, 118, 119, 120, 121, 122, 123, 124, 125, 126, 127, 128, 129, 130, 131, 132, 136, 137, 138, 139, 144, 145, 146, 147, 148, 149, 150, 151, 152, 153, 154, 155, 156, 157, 158, 159, 160]
def zCst (S : ZSt) : Prop := ∀ c j, 1 ≤ c → c < 75 → zI S c j = (zcon.getD c []).getD j 0
/-- the reference's task, its steps below st -/
def jTMs (S : ZSt) (st t : Nat) (cs : List (List (Nat × Nat))) : Prop := zI S 142 t = nI cs.length ∧ ∃ f, cdM S t 0 f cs ∧ f + totl cs ≤ st
def jTks (S : ZSt) : Prop := ∃ tc st, tc ≤ 6 ∧ st ≤ 400 * tc ∧ zI S 75 7 = nI tc ∧ zI S 130 15 = nI tc ∧ zI S 130 20 = nI st ∧ (∀ i, tc ≤ i → zR S 91 i = none) ∧ ∀ i, i < tc → ∃ o2 cs, zR S 91 i = some o2 ∧ OT S o2 cs ∧ jTMs S st i cs
theorem jTks.to {S : ZSt} (h : jTks S) : jTasks S := by
  obtain ⟨tc, st, h1, h2, h3, h4, h5, -, h6⟩ := h
  refine ⟨tc, h1, h3, h4, fun i hi => ?_⟩
  obtain ⟨o2, cs, a1, a2, a3, f, a4, a5⟩ := h6 i hi
  exact ⟨o2, cs, a1, a2, a3, f, a4, by omega⟩
/-- a kept state of the object -/
def imL (k : Nat) : Nat := [6, 12, 24, 0, 4, 12, 24, 24, 36, 36, 36, 10].getD k 0
def jIO (S : ZSt) (o : Nat) (rs : Nat → Nat) : Prop := (zDy S o ∧ zc S o = 3) ∧ ∀ k, k < 12 → k ≠ 3 → zR S o k = some (rs k) ∧ zDy S (rs k) ∧ zArr S (rs k) (imL k)
def jIms (S : ZSt) : Prop := ∃ ic, ic ≤ 3 ∧ zI S 75 10 = nI ic ∧ zI S 130 4 = nI ic ∧ (∀ i o, zR S 104 i = some o → i < 3 ∧ ∃ rs, jIO S o rs) ∧ ∀ i, i < ic → ∃ o rs, zR S 104 i = some o ∧ jIO S o rs ∧ jSt (zI S) o (rs 0) (rs 1) (rs 2) (rs 4) (rs 5) (rs 6) (rs 7) (rs 8) (rs 9) (rs 10) (rs 11) (fun j => zI S 133 (225 * i + j))
/-- which cell is whose -/
def zTg (S : ZSt) (tg : Nat → Nat) : Prop := (∀ i o, zR S 90 i = some o → i < 6 ∧ tg o = 1000 + 10 * i ∧ ∀ k q, k < 3 → zR S o k = some q → tg q = 1001 + 10 * i + k) ∧ (∀ i o, zR S 91 i = some o → i < 6 ∧ tg o = 2000 + 10 * i ∧ ∀ k q, k < 3 → zR S o k = some q → tg q = 2001 + 10 * i + k) ∧ (∀ i o, zR S 104 i = some o → i < 3 ∧ tg o = 3000 + 20 * i ∧ ∀ k q, k < 12 → zR S o k = some q → tg q = 3001 + 20 * i + k) ∧ ∀ o, o ≠ 125 → zc S o = 5 → ∃ i, zR S 91 i = some o
theorem zTg.stk {S : ZSt} {tg : Nat → Nat} (h : zTg S tg) {c : Nat} (hc : zStk S c) : ∃ i, i < 6 ∧ tg c = 2003 + 10 * i := by
  obtain ⟨o, h1, h2, h3⟩ := hc
  obtain ⟨i, hi⟩ := h.2.2.2 o h1 h2
  obtain ⟨a1, a2, a3⟩ := h.2.1 i o hi
  exact ⟨i, a1, by have := a3 2 c (by omega) h3; omega⟩
theorem zTg.wn {S : ZSt} {tg : Nat → Nat} (h : zTg S tg) : zWn S := fun i o ho => by
  obtain ⟨a1, a2, a3⟩ := h.1 i o ho
  refine ⟨fun h9 => ?_, fun k q hk hq h9 => ?_⟩
  · obtain ⟨j, b1, b2⟩ := h.stk h9
    omega
  · obtain ⟨j, b1, b2⟩ := h.stk h9
    have := a3 k q hk hq
    omega
/-- references lead to cells that were made; of the reckoner's own it is known where -/
def zWf (S : ZSt) : Prop := (∀ o k q, o ≠ 125 → zR S o k = some q → q < zx S) ∧ (∀ c i, c ≠ 125 → zR S c i = some 125 → c = 75) ∧ ∀ c i o, c = 90 ∨ c = 91 ∨ c = 104 → zR S c i = some o → 162 ≤ o
def zBase (S : ZSt) : Prop := zCst S ∧ jTape S ∧ zI S 76 8 = zI S 130 11 ∧ jWays S ∧ jTks S ∧ jIms S ∧ zI S 130 34 = - nI 1 ∧ zSwp (zR S 125) ∧ (∃ tg, zTg S tg) ∧ zStD S ∧ zWf S
def zInv (L n : Nat) (S : ZSt) : Prop := zSh S ∧ jCore S ∧ zBase S ∧ zc S 0 = 105 ∧ zn S 0 = L ∧ zu S ≤ 87 + 40 * n ∧ zz S ≤ 17930 + 2000 * n
def zFK (S S2 : ZSt) : Prop := (∀ c, zmem c lX = false → ¬ zStk S c → zI S2 c = zI S c) ∧ zKM S S2 ∧ (∀ c, c ≠ 125 → zR S2 c = zR S c) ∧ (zSwp (zR S 125) → zSwp (zR S2 125)) ∧ zn S2 = zn S ∧ zc S2 = zc S ∧ zx S2 = zx S
theorem zFK.at {S S2 : ZSt} (h : zFK S S2) (hD : zStD S) {c : Nat} (hl : (!zmem c lX && Nat.blt c 162) = true) : zI S2 c = zI S c := by
  obtain ⟨h1, h2⟩ := zand hl
  have h3 : c < 162 := Nat.le_of_ble_eq_true h2
  refine h.1 c ?_ (fun h9 => by have := hD c h9; omega)
  cases hb : zmem c lX with
  | false => rfl
  | true =>
    rw [hb] at h1
    cases h1
theorem zFK.dy {S S2 : ZSt} (h : zFK S S2) {c : Nat} (hc : 162 ≤ c) (hs : ¬ zStk S c) : zI S2 c = zI S c := h.1 c (zmem_big (b := 162) rfl hc) hs
theorem zFK.stk {S S2 : ZSt} (h : zFK S S2) {c : Nat} : zStk S2 c ↔ zStk S c := ⟨fun h9 => zStk_of h.2.2.2.2.2.1 h.2.2.1 h9, fun h9 => zStk_of h.2.2.2.2.2.1.symm (fun c hc => (h.2.2.1 c hc).symm) h9⟩
theorem zFK.dyc {S S2 : ZSt} (h : zFK S S2) {c : Nat} : zDy S2 c ↔ zDy S c := by
  unfold zDy
  rw [h.2.2.2.2.2.2]
theorem zFK.ok {S S2 : ZSt} (h : zFK S S2) {c : Nat} (hc : zOkC S c) : zOkC S2 c := ⟨hc.1, fun h9 => hc.2 (h.stk.mp h9)⟩
theorem zFK.wf {S S2 : ZSt} (h : zFK S S2) (hw : zWf S) : zWf S2 := ⟨fun o k q ho hq => by
  rw [h.2.2.2.2.2.2]
  rw [h.2.2.1 o ho] at hq
  exact hw.1 o k q ho hq, fun c i hc hq => by
  rw [h.2.2.1 c hc] at hq
  exact hw.2.1 c i hc hq, fun c i o hc ho => by
  rw [h.2.2.1 c (by omega)] at ho
  exact hw.2.2 c i o hc ho⟩
theorem zmemX {c : Nat} (h1 : 1 ≤ c) (h2 : c < 75) : zmem c lX = false := by
  have hall : (List.range 75).all (fun c => !zmem c lX) = true := by decide +kernel
  have := List.all_eq_true.mp hall c (List.mem_range.mpr h2)
  cases hb : zmem c lX with
  | false => rfl
  | true =>
    rw [hb] at this
    cases this
theorem zFK.base {S S2 : ZSt} (h : zFK S S2) (hB : zBase S) : zBase S2 := by
  obtain ⟨b1, b2, b3, b4, b5, b6, b7, b8, ⟨tg, b9⟩, b10, b11⟩ := hB
  have hwn := b9.wn
  obtain ⟨k1, k2, k3⟩ := h.2.1
  have r := h.2.2.1
  have ec := h.2.2.2.2.2.1
  have en := h.2.2.2.2.1
  have ex := h.2.2.2.2.2.2
  have r90 : zR S2 90 = zR S 90 := r 90 (by omega)
  have r91 : zR S2 91 = zR S 91 := r 91 (by omega)
  have r104 : zR S2 104 = zR S 104 := r 104 (by omega)
  refine ⟨fun c j a1 a2 => ?_, ?_, ?_, ?_, ?_, ?_, ?_, h.2.2.2.1 b8, ⟨tg, ?_⟩, fun c hc => b10 c (h.stk.mp hc), ?_⟩
  · rw [h.1 c (zmemX a1 a2) (fun h9 => by have := b10 c h9; omega)]
    exact b1 c j a1 a2
  · unfold jTape
    rw [h.at (c := 76) b10 rfl, h.at (c := 77) b10 rfl, h.at (c := 134) b10 rfl, k1 5 rfl]
    exact b2
  · rw [h.at (c := 76) b10 rfl, k1 11 rfl]
    exact b3
  · obtain ⟨wc, w1, w2, w3, w4⟩ := b4
    refine ⟨wc, w1, by rw [h.at (c := 75) b10 rfl]; exact w2, by rw [k1 14 rfl]; exact w3, fun i hi => ?_⟩
    obtain ⟨o, ra, rb, rc, n, kd, fa, fb, c1, ⟨d0, d1, d2, d3⟩, c2, c3, c4⟩ := w4 i hi
    obtain ⟨n0, n1⟩ := hwn i o c1
    refine ⟨o, ra, rb, rc, n, kd, fa, fb, by rw [r90]; exact c1, ⟨h.dyc.mpr d0, h.dyc.mpr d1, h.dyc.mpr d2, h.dyc.mpr d3⟩, c2, ?_, ?_⟩
    · have hb := d0.1
      unfold jWO zArr
      rw [ec, en, r o (by omega), h.dy d0.1 n0, h.dy d1.1 (n1 0 ra (by omega) c3.2.2.1.1), h.dy d2.1 (n1 1 rb (by omega) c3.2.2.1.2.1), h.dy d3.1 (n1 2 rc (by omega) c3.2.2.1.2.2)]
      exact c3
    · obtain ⟨e1, e2⟩ := c4
      have hn := c2.2.1
      refine ⟨by rw [k2 i (by omega)]; exact e1, fun k hk => ?_⟩
      obtain ⟨f1, f2, f3⟩ := k3 (24 * i + k) (by omega)
      rw [f1, f2, f3]
      exact e2 k hk
  · obtain ⟨tc, st, t1, t2, t3, t4, t5, t9, t6⟩ := b5
    refine ⟨tc, st, t1, t2, by rw [h.at (c := 75) b10 rfl]; exact t3, by rw [k1 15 rfl]; exact t4, by rw [k1 20 rfl]; exact t5, fun i9 h9 => by rw [r91]; exact t9 i9 h9, fun i hi => ?_⟩
    obtain ⟨o2, cs, c1, ⟨g1, ra, rb, rs, g2, ⟨g3, g4⟩, ⟨g5, g6⟩, g7⟩, c3, f, c4, c5⟩ := t6 i hi
    refine ⟨o2, cs, by rw [r91]; exact c1, ⟨g1, ra, rb, rs, g2, ⟨h.ok g3, h.ok g4⟩, ⟨h.stk.mpr g5, g6⟩, ?_⟩, by rw [h.at (c := 142) b10 rfl]; exact c3, f, c4.cg (h.at b10 rfl) (h.at b10 rfl) (h.at b10 rfl), c5⟩
    unfold jTO zArr
    rw [ec, en, r o2 (by omega), h.dy g3.1 g3.2, h.dy g4.1 g4.2]
    exact g7
  · obtain ⟨ic, i1, i2, i3, i4, i5⟩ := b6
    have io : ∀ {o rs}, jIO S o rs → jIO S2 o rs := fun {o rs} hio => by
      obtain ⟨⟨a1, a2⟩, a3⟩ := hio
      have := a1.1
      refine ⟨⟨h.dyc.mpr a1, by rw [ec]; exact a2⟩, fun k hk hk3 => ?_⟩
      obtain ⟨c1, c2, c3, c4⟩ := a3 k hk hk3
      exact ⟨by rw [r o (by omega)]; exact c1, h.dyc.mpr c2, by unfold zArr; rw [ec, en]; exact ⟨c3, c4⟩⟩
    refine ⟨ic, i1, by rw [h.at (c := 75) b10 rfl]; exact i2, by rw [k1 4 rfl]; exact i3, fun i o ho => ?_, fun i hi => ?_⟩
    · rw [r104] at ho
      obtain ⟨a1, rs, a2⟩ := i4 i o ho
      exact ⟨a1, rs, io a2⟩
    · obtain ⟨o, rs, a1, a2, a3⟩ := i5 i hi
      refine ⟨o, rs, by rw [r104]; exact a1, io a2, ?_⟩
      obtain ⟨t1, t2, t3⟩ := b9.2.2.1 i o a1
      have dk : ∀ k, k < 12 → k ≠ 3 → zI S2 (rs k) = zI S (rs k) := fun k hk hk3 => by
        obtain ⟨c1, c2, c3⟩ := a2.2 k hk hk3
        refine h.dy c2.1 (fun h9 => ?_)
        obtain ⟨j, e1, e2⟩ := b9.stk h9
        have := t3 k (rs k) hk c1
        omega
      have do' : zI S2 o = zI S o := h.dy a2.1.1.1 (fun h9 => by
        obtain ⟨j, e1, e2⟩ := b9.stk h9
        omega)
      unfold jSt
      rw [do', dk 0 (by omega) (by omega), dk 1 (by omega) (by omega), dk 2 (by omega) (by omega), dk 4 (by omega) (by omega), dk 5 (by omega) (by omega), dk 6 (by omega) (by omega), dk 7 (by omega) (by omega), dk 8 (by omega) (by omega), dk 9 (by omega) (by omega), dk 10 (by omega) (by omega), dk 11 (by omega) (by omega), h.at (c := 133) b10 rfl]
      exact a3
  · rw [k1 34 rfl]
    exact b7
  · obtain ⟨g1, g2, g3, g4⟩ := b9
    refine ⟨fun i o ho => ?_, fun i o ho => ?_, fun i o ho => ?_, fun o ho h5 => ?_⟩
    · rw [r90] at ho
      obtain ⟨a1, a2, a3⟩ := g1 i o ho
      obtain ⟨x1, x2⟩ := hwn i o ho
      refine ⟨a1, a2, fun k q hk hq => a3 k q hk ?_⟩
      by_cases e : o = 125
      · exfalso
        rw [e] at ho
        have := b11.2.1 _ _ (by omega) ho
        omega
      · rw [r o e] at hq
        exact hq
    · rw [r91] at ho
      obtain ⟨a1, a2, a3⟩ := g2 i o ho
      refine ⟨a1, a2, fun k q hk hq => a3 k q hk ?_⟩
      by_cases e : o = 125
      · exfalso
        rw [e] at ho
        have := b11.2.1 _ _ (by omega) ho
        omega
      · rw [r o e] at hq
        exact hq
    · rw [r104] at ho
      obtain ⟨a1, a2, a3⟩ := g3 i o ho
      refine ⟨a1, a2, fun k q hk hq => a3 k q hk ?_⟩
      by_cases e : o = 125
      · exfalso
        rw [e] at ho
        have := b11.2.1 _ _ (by omega) ho
        omega
      · rw [r o e] at hq
        exact hq
    · rw [ec] at h5
      rw [r91]
      exact g4 o ho h5
  · exact h.wf b11
