/-! A new task is kept by both: what must hold goes on -/
theorem cdM_r {S S' : ZSt} {t : Nat} : ∀ (cs : List (List (Nat × Nat))) (k f : Nat), cdM S t k f cs → (∀ j, j < f + totl cs → zI S' 140 j = zI S 140 j ∧ zI S' 141 j = zI S 141 j) → (∀ j, j ≤ 13 * t + k + cs.length → zI S' 143 j = zI S 143 j) → cdM S' t k f cs
  | [], k, f, h, _, e3 => (e3 _ (Nat.le_add_right _ _)).trans h
  | c :: r, k, f, h, e, e3 => by
    obtain ⟨h1, h2, h3⟩ := h
    have et : totl (c :: r) = c.length + totl r := rfl
    have el : (c :: r).length = r.length + 1 := rfl
    rw [et] at e
    rw [el] at e3
    exact ⟨(e3 _ (by omega)).trans h1, patM_c c f (fun j a b => e j (by omega)) h2, cdM_r r (k + 1) (f + c.length) h3 (fun j hj => e j (by omega)) (fun j hj => e3 j (by omega))⟩
def lNT : List Nat := [75, 76, 86, 87, 88, 89, 130, 140, 141, 142, 143]
def zNt (tc st : Nat) (cs : List (List (Nat × Nat))) (S S2 : ZSt) : Prop := ((∀ c, c < zx S → zmem c lNT = false → zI S2 c = zI S c) ∧ (∀ j, j ≠ 7 → zI S2 75 j = zI S 75 j) ∧ ∀ j, zmem j (15 :: 20 :: lTs) = false → zI S2 130 j = zI S 130 j) ∧ ((∀ j, j < st → zI S2 140 j = zI S 140 j ∧ zI S2 141 j = zI S 141 j) ∧ (∀ j, j < 13 * tc → zI S2 143 j = zI S 143 j) ∧ ∀ j, j ≠ tc → zI S2 142 j = zI S 142 j) ∧ ((∀ c, c < zx S → zn S2 c = zn S c ∧ zc S2 c = zc S c) ∧ (∀ c, c < zx S → c ≠ 91 → zR S2 c = zR S c) ∧ (∀ j, j ≠ tc → zR S2 91 j = zR S 91 j) ∧ zR S2 91 tc = some (zx S)) ∧ (zx S2 = zx S + 4 ∧ ∀ c, zx S + 4 ≤ c → zR S2 c = zR S c ∧ zc S2 c = zc S c) ∧ (jTO S2 (zx S) (zx S + 1) (zx S + 2) (zx S + 3) (flat cs) ∧ (∀ k q, zR S2 (zx S) k = some q → k < 3 ∧ q = zx S + 1 + k) ∧ ∀ j, j < 3 → ∀ k, zR S2 (zx S + 1 + j) k = none)
theorem zNt.base {tc st : Nat} {cs : List (List (Nat × Nat))} {S S2 : ZSt} (h : zNt tc st cs S S2) (hB : zBase S) (hS : zSh S) (h7 : zI S 75 7 = nI tc) (htc : tc < 6) (h20 : zI S 130 20 = nI st) (hst : st ≤ 400 * tc) (hp : jTape S2) (hf : zI S2 76 8 = zI S2 130 11) (n7 : zI S2 75 7 = nI (tc + 1)) (n15 : zI S2 130 15 = nI (tc + 1)) (n20 : zI S2 130 20 = nI (st + totl cs)) (hw : wfT cs) (hm : zI S2 142 tc = nI cs.length) (hc : cdM S2 tc 0 st cs) : zBase S2 := by
  obtain ⟨b1, b2, b3, b4, b5, b6, b7, b8, ⟨tg, b9⟩, b10, b11⟩ := hB
  obtain ⟨⟨oI, o75, o130⟩, ⟨m140, m143, m142⟩, ⟨oNC, oR, r91, r91n⟩, ⟨ex, g3⟩, ⟨jt, jr, jn⟩⟩ := h
  have hx : 162 ≤ zx S := hS.2.2.2
  have oI' : ∀ c, c < 162 → zmem c lNT = false → zI S2 c = zI S c := fun c hc hm => oI c (by omega) hm
  have oD : ∀ c, zDy S c → zI S2 c = zI S c := fun c hc => oI c hc.2 (zmem_big (b := 162) rfl hc.1)
  have lt : ∀ {c j q : Nat}, c ≠ 125 → zR S c j = some q → q < zx S := fun {c j q} hc hq => b11.1 c j q hc hq
  have cell : ∀ c k q, zR S2 c k = some q → (q = zx S ∧ c = 91 ∧ k = tc) ∨ zR S c k = some q ∨ (c = zx S ∧ k < 3 ∧ q = zx S + 1 + k) := fun c k q hq => by
    by_cases c1 : c < zx S
    · by_cases c9 : c = 91
      · by_cases ck : k = tc
        · rw [c9, ck, r91n] at hq
          cases hq
          exact Or.inl ⟨rfl, c9, ck⟩
        · rw [c9, r91 k ck] at hq
          exact Or.inr (Or.inl (by rw [c9]; exact hq))
      · rw [oR c c1 c9] at hq
        exact Or.inr (Or.inl hq)
    · by_cases c0 : c = zx S
      · rw [c0] at hq
        exact Or.inr (Or.inr ⟨c0, jr k q hq⟩)
      · by_cases c4 : c < zx S + 4
        · have := jn (c - (zx S + 1)) (by omega) k
          rw [show zx S + 1 + (c - (zx S + 1)) = c by omega, hq] at this
          cases this
        · rw [(g3 c (by omega)).1] at hq
          exact Or.inr (Or.inl hq)
  have five : ∀ o, zc S2 o = 5 → o = zx S ∨ (zc S o = 5 ∧ (o < zx S ∨ zx S + 4 ≤ o)) := fun o h5 => by
    by_cases c1 : o < zx S
    · rw [(oNC o c1).2] at h5
      exact Or.inr ⟨h5, Or.inl c1⟩
    · by_cases c0 : o = zx S
      · exact Or.inl c0
      · by_cases c4 : o < zx S + 4
        · exfalso
          obtain ⟨-, -, ⟨⟨y1, -⟩, ⟨y2, -⟩, ⟨y3, -⟩⟩, -⟩ := jt
          have : o = zx S + 1 ∨ o = zx S + 2 ∨ o = zx S + 3 := by omega
          rcases this with e | e | e
          · rw [e, y1] at h5
            exact absurd h5 (by decide)
          · rw [e, y2] at h5
            exact absurd h5 (by decide)
          · rw [e, y3] at h5
            exact absurd h5 (by decide)
        · rw [(g3 o (by omega)).2] at h5
          exact Or.inr ⟨h5, Or.inr (by omega)⟩
  have stk : ∀ c, zStk S2 c → c = zx S + 3 ∨ zStk S c := fun c ⟨o9, x1, x2, x3⟩ => by
    rcases cell o9 2 c x3 with ⟨-, e, -⟩ | e | ⟨-, -, e⟩
    · rw [e, (oNC 91 (by omega)).2, hS.1 91 (by omega)] at x2
      exact absurd x2 (by decide)
    · rcases five o9 x2 with y | ⟨y, -⟩
      · exfalso
        rw [y] at x3
        have := lt x1 e
        have := (jr 2 c x3).2
        omega
      · exact Or.inr ⟨o9, x1, y, e⟩
    · exact Or.inl (by omega)
  have stkLt : ∀ c, zStk S c → c < zx S := fun c ⟨o9, x1, x2, x3⟩ => lt x1 x3
  have okc : ∀ c, c < zx S → zOkC S c → zOkC S2 c := fun c hlt hc => ⟨hc.1, fun h9 => by
    rcases stk c h9 with e | e
    · omega
    · exact hc.2 e⟩
  have arr : ∀ {c n : Nat}, c < zx S → zArr S c n → zArr S2 c n := fun {c n} hc ha => ⟨(oNC c hc).2.trans ha.1, (oNC c hc).1.trans ha.2⟩
  have dy : ∀ {c : Nat}, zDy S c → zDy S2 c := fun {c} hc => ⟨hc.1, by have := hc.2; rw [ex]; omega⟩
  have io : ∀ {o' rs}, jIO S o' rs → jIO S2 o' rs := fun {o' rs} hio => by
    obtain ⟨⟨a1, a2⟩, a3⟩ := hio
    have := a1.1
    refine ⟨⟨dy a1, (oNC o' a1.2).2.trans a2⟩, fun k hk hk3 => ?_⟩
    obtain ⟨c1, c2, c3⟩ := a3 k hk hk3
    exact ⟨by rw [oR o' a1.2 (by omega)]; exact c1, dy c2, arr c2.2 c3⟩
  have e90 : zR S2 90 = zR S 90 := oR 90 (by omega) (by omega)
  have e104 : zR S2 104 = zR S 104 := oR 104 (by omega) (by omega)
  refine ⟨fun c j a1 a2 => ?_, hp, hf, ?_, ?_, ?_, (o130 34 rfl).trans b7, ?_, ⟨fun c => if c < zx S then tg c else if c = zx S then 2000 + 10 * tc else 2001 + 10 * tc + (c - (zx S + 1)), ?_⟩, fun c hc => ?_, ?_⟩
  · rw [oI' c (by omega) (zlst (l := lNT) rfl a2)]
    exact b1 c j a1 a2
  · obtain ⟨wc, w1, w2, w3, w4⟩ := b4
    refine ⟨wc, w1, (o75 6 (by omega)).trans w2, (o130 14 rfl).trans w3, fun i' hi' => ?_⟩
    obtain ⟨o', ra, rb', rc, n, kd, fa, fb, c1, ⟨d0, d1, d2, d3⟩, c2, c3, c4⟩ := w4 i' hi'
    refine ⟨o', ra, rb', rc, n, kd, fa, fb, by rw [e90]; exact c1, ⟨dy d0, dy d1, dy d2, dy d3⟩, c2, ?_, ?_⟩
    · have := d0.1
      obtain ⟨x1, x2, x3, ⟨x4, x5, x6⟩, x7⟩ := c3
      refine ⟨(oNC o' d0.2).2.trans x1, by rw [oD o' d0]; exact x2, by rw [oR o' d0.2 (by omega)]; exact x3, ⟨arr d1.2 x4, arr d2.2 x5, arr d3.2 x6⟩, ?_⟩
      rw [oD ra d1, oD rb' d2, oD rc d3]
      exact x7
    · exact c4.cg (oI' 136 (by omega) rfl) (oI' 137 (by omega) rfl) (oI' 138 (by omega) rfl) (oI' 139 (by omega) rfl)
  · obtain ⟨tc0, st0, t1, t2, t3, t4, t5, t9, t6⟩ := b5
    have q1 : tc0 = tc := nEq (by omega) (by omega) (t3.symm.trans h7)
    have q2 : st0 = st := nEq (by omega) (by omega) (t5.symm.trans h20)
    subst q1
    subst q2
    have tl := totl_le cs
    have hw2 := hw.2.1
    refine ⟨tc0 + 1, st0 + totl cs, by omega, by omega, n7, n15, n20, fun i hi => (r91 i (by omega)).trans (t9 i (by omega)), fun i hi => ?_⟩
    by_cases e : i = tc0
    · rw [e]
      have nk : ∀ c, zx S ≤ c → c ≠ zx S + 3 → zOkC S2 c := fun c hc hn => ⟨by omega, fun h9 => by
        rcases stk c h9 with y | y
        · exact hn y
        · have := stkLt c y
          omega⟩
      exact ⟨zx S, cs, r91n, ⟨hw, zx S + 1, zx S + 2, zx S + 3, hx, ⟨nk _ (by omega) (by omega), nk _ (by omega) (by omega)⟩, ⟨⟨zx S, by omega, jt.1, jt.2.1.2.2⟩, by omega⟩, jt⟩, hm, st0, hc, Nat.le_refl _⟩
    · obtain ⟨o2, cs', c1, ⟨k1, ra, rb', rs, k2, ⟨k3, k4⟩, ⟨k5, k6⟩, ⟨j1, ⟨j2, j3, j4⟩, ⟨j5, j6, j7⟩, j8⟩⟩, c3, f, c4, c5⟩ := t6 i (by omega)
      have l2 : o2 < zx S := lt (c := 91) (by omega) c1
      have la : ra < zx S := lt (c := o2) (by omega) j2
      have lb : rb' < zx S := lt (c := o2) (by omega) j3
      have ls : rs < zx S := lt (c := o2) (by omega) j4
      have e2 : zR S2 o2 = zR S o2 := oR o2 l2 (by omega)
      have k12 := k1.1
      refine ⟨o2, cs', (r91 i e).trans c1, ⟨k1, ra, rb', rs, k2, ⟨okc _ la k3, okc _ lb k4⟩, ⟨⟨o2, by omega, (oNC o2 l2).2.trans j1, by rw [e2]; exact j4⟩, k6⟩, (oNC o2 l2).2.trans j1, by rw [e2]; exact ⟨j2, j3, j4⟩, ⟨arr la j5, arr lb j6, arr ls j7⟩, by rw [oD ra ⟨k3.1, la⟩, oD rb' ⟨k4.1, lb⟩]; exact j8⟩, (m142 i e).trans c3, f, cdM_r cs' 0 f c4 (fun j hj => m140 j (by omega)) (fun j hj => m143 j (by omega)), by omega⟩
  · obtain ⟨ic, i1, i2, i3, i4, i5⟩ := b6
    refine ⟨ic, i1, (o75 10 (by omega)).trans i2, (o130 4 rfl).trans i3, fun i' o' ho' => ?_, fun i' hi' => ?_⟩
    · rw [e104] at ho'
      obtain ⟨a1, rs, a2⟩ := i4 i' o' ho'
      exact ⟨a1, rs, io a2⟩
    · obtain ⟨o', rs, a1, a2, a3⟩ := i5 i' hi'
      refine ⟨o', rs, by rw [e104]; exact a1, io a2, ?_⟩
      have dk : ∀ k, k < 12 → k ≠ 3 → zI S2 (rs k) = zI S (rs k) := fun k hk hk3 => oD _ (a2.2 k hk hk3).2.1
      unfold jSt
      rw [oD o' a2.1.1, dk 0 (by omega) (by omega), dk 1 (by omega) (by omega), dk 2 (by omega) (by omega), dk 4 (by omega) (by omega), dk 5 (by omega) (by omega), dk 6 (by omega) (by omega), dk 7 (by omega) (by omega), dk 8 (by omega) (by omega), dk 9 (by omega) (by omega), dk 10 (by omega) (by omega), dk 11 (by omega) (by omega), oI' 133 (by omega) rfl]
      exact a3
  · rw [oR 125 (by omega) (by omega)]
    exact b8
  · obtain ⟨t1, t2, t3, t4⟩ := b9
    have t9 : ∀ i o, zR S 91 i = some o → i ≠ tc := fun i o ho e => by
      obtain ⟨tc0, st0, s1, s2, s3, s4, s5, s9, s6⟩ := b5
      have q1 : tc0 = tc := nEq (by omega) (by omega) (s3.symm.trans h7)
      have := s9 i (by omega)
      rw [ho] at this
      cases this
    have tgo : ∀ {c : Nat}, c < zx S → (if c < zx S then tg c else if c = zx S then 2000 + 10 * tc else 2001 + 10 * tc + (c - (zx S + 1))) = tg c := fun {c} hc => if_pos hc
    refine ⟨fun i' o' ho' => ?_, fun i' o' ho' => ?_, fun i' o' ho' => ?_, fun o' hn h5 => ?_⟩
    · rw [e90] at ho'
      obtain ⟨a1, a2, a3⟩ := t1 i' o' ho'
      have l1 := lt (c := 90) (by omega) ho'
      have l2 := b11.2.2 90 i' o' (by omega) ho'
      refine ⟨a1, (tgo l1).trans a2, fun k q hk hq' => ?_⟩
      rw [oR o' l1 (by omega)] at hq'
      exact (tgo (lt (c := o') (by omega) hq')).trans (a3 k q hk hq')
    · by_cases e : i' = tc
      · rw [e, r91n] at ho'
        cases ho'
        rw [e]
        refine ⟨htc, ?_, fun k q hk hq' => ?_⟩
        · exact (if_neg (Nat.lt_irrefl _)).trans (if_pos rfl)
        · have y := (jr k q hq').2
          exact (if_neg (by omega)).trans ((if_neg (by omega)).trans (by omega))
      · rw [r91 i' e] at ho'
        obtain ⟨a1, a2, a3⟩ := t2 i' o' ho'
        have l1 := lt (c := 91) (by omega) ho'
        have l2 := b11.2.2 91 i' o' (by omega) ho'
        refine ⟨a1, (tgo l1).trans a2, fun k q hk hq' => ?_⟩
        rw [oR o' l1 (by omega)] at hq'
        exact (tgo (lt (c := o') (by omega) hq')).trans (a3 k q hk hq')
    · rw [e104] at ho'
      obtain ⟨a1, a2, a3⟩ := t3 i' o' ho'
      have l1 := lt (c := 104) (by omega) ho'
      have l2 := b11.2.2 104 i' o' (by omega) ho'
      refine ⟨a1, (tgo l1).trans a2, fun k q hk hq' => ?_⟩
      rw [oR o' l1 (by omega)] at hq'
      exact (tgo (lt (c := o') (by omega) hq')).trans (a3 k q hk hq')
    · rcases five o' h5 with y | ⟨y, -⟩
      · exact ⟨tc, by rw [y]; exact r91n⟩
      · obtain ⟨i9, h9⟩ := t4 o' hn y
        exact ⟨i9, by rw [r91 i9 (t9 i9 o' h9)]; exact h9⟩
  · rcases stk c hc with y | y
    · omega
    · exact b10 c y
  · refine ⟨fun c k q hc h9 => ?_, fun c k hc h9 => ?_, fun c k q hc h9 => ?_⟩
    · rw [ex]
      rcases cell c k q h9 with ⟨x, -, -⟩ | x | ⟨-, y, z⟩
      · omega
      · have := lt hc x
        omega
      · omega
    · rcases cell c k 125 h9 with ⟨x, -, -⟩ | x | ⟨-, y, z⟩
      · omega
      · exact b11.2.1 c k hc x
      · omega
    · rcases cell c k q h9 with ⟨x, -, -⟩ | x | ⟨x, y, z⟩
      · omega
      · exact b11.2.2 c k q hc x
      · omega
