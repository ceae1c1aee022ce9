/-! New cells: nothing old is touched -/
def zGr (S S2 : ZSt) : Prop := zx S ≤ zx S2 ∧ (∀ c, c < zx S → zI S2 c = zI S c ∧ zR S2 c = zR S c ∧ zn S2 c = zn S c ∧ zc S2 c = zc S c) ∧ (∀ c, zx S2 ≤ c → zR S2 c = zR S c ∧ zc S2 c = zc S c) ∧ zL S2 161 = zL S 161
theorem zGr.rf {S : ZSt} : zGr S S := ⟨Nat.le_refl _, fun _ _ => ⟨rfl, rfl, rfl, rfl⟩, fun _ _ => ⟨rfl, rfl⟩, rfl⟩
theorem zGr.new {S S1 : ZSt} {t n sl : Nat} {f : Nat → Int32} (h : zGr S S1) (hx : 162 ≤ zx S) : zGr S (zNew S1 t n sl f) := by
  obtain ⟨h1, h2, h3, h4⟩ := h
  have e : zx (zNew S1 t n sl f) = zx S1 + 1 := rfl
  refine ⟨by omega, fun c hc => ?_, fun c hc => ?_, ?_⟩
  · obtain ⟨a, b, d, g⟩ := h2 c hc
    exact ⟨(zup_ne (by omega)).trans a, (zup_ne (by omega)).trans b, (zup_ne (by omega)).trans d, (zup_ne (by omega)).trans g⟩
  · rw [e] at hc
    obtain ⟨a, b⟩ := h3 c (by omega)
    exact ⟨(zup_ne (by omega)).trans a, (zup_ne (by omega)).trans b⟩
  · exact (zup_ne (by omega)).trans h4
theorem zGr.R {S S1 : ZSt} {o k : Nat} {v : Option Nat} (h : zGr S S1) (ho : zx S ≤ o) (ho2 : o < zx S1) : zGr S (zsR S1 o k v) := by
  obtain ⟨h1, h2, h3, h4⟩ := h
  refine ⟨h1, fun c hc => ?_, fun c hc => ?_, h4⟩
  · obtain ⟨a, b, d, g⟩ := h2 c hc
    exact ⟨a, (zup_ne (by omega)).trans b, d, g⟩
  · have hc : zx S1 ≤ c := hc
    obtain ⟨a, b⟩ := h3 c hc
    exact ⟨(zup_ne (by omega)).trans a, b⟩
theorem zGr.I {S S1 : ZSt} {o k : Nat} {v : Int32} (h : zGr S S1) (ho : zx S ≤ o) : zGr S (zsI S1 o k v) := by
  obtain ⟨h1, h2, h3, h4⟩ := h
  refine ⟨h1, fun c hc => ?_, h3, h4⟩
  obtain ⟨a, b, d, g⟩ := h2 c hc
  exact ⟨(zup_ne (by omega)).trans a, b, d, g⟩
theorem zGr.sh {S S2 : ZSt} (h : zGr S S2) (hS : zSh S) : zSh S2 := by
  obtain ⟨h1, h2, h3, h4⟩ := h
  obtain ⟨s1, s2, s3, s4⟩ := hS
  refine ⟨fun k hk => (h2 k (by omega)).2.2.2.trans (s1 k hk), fun k h0 hk => (h2 k (by omega)).2.2.1.trans (s2 k h0 hk), fun k j q hq => ?_, by omega⟩
  by_cases c : k < 162
  · rw [(h2 k (by omega)).2.1]
    exact s3 k j q hq
  · rw [zTr_big (by omega)] at hq
    cases hq
/-- a new way or a new state for images stands in its row -/
theorem zGr.base {S S1 : ZSt} {b i o : Nat} {tn : Nat → Nat} (hB : zBase S) (hS : zSh S) (h : zGr S S1) (hb : b = 90 ∨ b = 104) (hi : (b = 90 → i < 6) ∧ (b = 104 → i < 3)) (ho : zx S ≤ o ∧ o < zx S1) (hc5 : ∀ c, zx S ≤ c → c < zx S1 → zc S1 c ≠ 5) (hq : ∀ c k q, zx S ≤ c → c < zx S1 → zR S1 c k = some q → q < zx S1 ∧ q ≠ 125) (ht : b = 90 → tn o = 1000 + 10 * i ∧ ∀ k q, k < 3 → zR S1 o k = some q → zx S ≤ q ∧ tn q = 1001 + 10 * i + k) (ht' : b = 104 → tn o = 3000 + 20 * i ∧ ∀ k q, k < 12 → zR S1 o k = some q → zx S ≤ q ∧ tn q = 3001 + 20 * i + k) (hio : b = 104 → ∃ rs, jIO S1 o rs) (hw : b = 90 → ∀ wc, zI S 75 6 = nI wc → wc ≤ 6 → wc ≤ i) (hm : b = 104 → ∀ ic, zI S 75 10 = nI ic → ic ≤ 3 → ic ≤ i) : zBase (zsR S1 b i (some o)) := by
  obtain ⟨b1, b2, b3, b4, b5, b6, b7, b8, ⟨tg, b9⟩, b10, b11⟩ := hB
  obtain ⟨g1, g2, g3, -⟩ := h
  have hx : 162 ≤ zx S := hS.2.2.2
  have oI : ∀ c, c < zx S → zI (zsR S1 b i (some o)) c = zI S c := fun c hc => (g2 c hc).1
  have oR : ∀ c, c < zx S → c ≠ b → zR (zsR S1 b i (some o)) c = zR S c := fun c hc hb => (zup_ne hb).trans (g2 c hc).2.1
  have oN : ∀ c, c < zx S → zn (zsR S1 b i (some o)) c = zn S c := fun c hc => (g2 c hc).2.2.1
  have oC : ∀ c, c < zx S → zc (zsR S1 b i (some o)) c = zc S c := fun c hc => (g2 c hc).2.2.2
  have ex : zx (zsR S1 b i (some o)) = zx S1 := rfl
  have rb : ∀ j, j ≠ i → zR (zsR S1 b i (some o)) b j = zR S b j := fun j hj => by
    show va_up (zR S1) b (va_up (zR S1 b) i (some o)) b j = _
    rw [va_up_self, zup_ne hj, (g2 b (by omega)).2.1]
  have rbi : zR (zsR S1 b i (some o)) b i = some o := by
    show va_up (zR S1) b (va_up (zR S1 b) i (some o)) b i = _
    rw [va_up_self, va_up_self]
  have r91 : zR (zsR S1 b i (some o)) 91 = zR S 91 := oR 91 (by omega) (by omega)
  have new : ∀ c, zx S ≤ c → c ≠ 125 → zR (zsR S1 b i (some o)) c = zR S1 c := fun c hc _ => zup_ne (by omega)
  have five : ∀ c, c ≠ 125 → zc (zsR S1 b i (some o)) c = 5 → c < zx S ∧ zc S c = 5 := fun c hc h5 => by
    by_cases c1 : c < zx S
    · rw [oC c c1] at h5
      exact ⟨c1, h5⟩
    · exfalso
      by_cases c2 : c < zx S1
      · exact hc5 c (by omega) c2 h5
      · have e : zc (zsR S1 b i (some o)) c = zc S c := (g3 c (by omega)).2
        rw [e] at h5
        obtain ⟨i9, h9⟩ := b9.2.2.2 c hc h5
        have := b11.1 91 i9 c (by omega) h9
        omega
  have nb : ∀ c, zc S c = 5 → c ≠ b := fun c h5 e => by
    rcases hb with hb | hb
    · rw [e, hb, hS.1 90 (by omega)] at h5
      exact absurd h5 (by decide)
    · rw [e, hb, hS.1 104 (by omega)] at h5
      exact absurd h5 (by decide)
  have stk : ∀ c, zStk (zsR S1 b i (some o)) c → zStk S c := fun c ⟨o9, x1, x2, x3⟩ => by
    obtain ⟨y1, y2⟩ := five o9 x1 x2
    rw [oR o9 y1 (nb o9 y2)] at x3
    exact ⟨o9, x1, y2, x3⟩
  have lt : ∀ {c j q : Nat}, c ≠ 125 → zR S c j = some q → q < zx S := fun {c j q} hc hq => b11.1 c j q hc hq
  have okc : ∀ c, zOkC S c → zOkC (zsR S1 b i (some o)) c := fun c hc => ⟨hc.1, fun h9 => hc.2 (stk c h9)⟩
  have arr : ∀ {c n : Nat}, c < zx S → zArr S c n → zArr (zsR S1 b i (some o)) c n := fun {c n} hc ha => ⟨(oC c hc).trans ha.1, (oN c hc).trans ha.2⟩
  have dy : ∀ {c : Nat}, zDy S c → zDy (zsR S1 b i (some o)) c := fun {c} hc => ⟨hc.1, by have := hc.2; rw [ex]; omega⟩
  have io : ∀ {o' rs}, jIO S o' rs → jIO (zsR S1 b i (some o)) o' rs := fun {o' rs} hio => by
    obtain ⟨⟨a1, a2⟩, a3⟩ := hio
    have := a1.1
    refine ⟨⟨dy a1, (oC o' a1.2).trans a2⟩, fun k hk hk3 => ?_⟩
    obtain ⟨c1, c2, c3⟩ := a3 k hk hk3
    exact ⟨by rw [oR o' a1.2 (by omega)]; exact c1, dy c2, arr c2.2 c3⟩
  have tgo : ∀ {c : Nat}, c < zx S → (if c < zx S then tg c else tn c) = tg c := fun {c} hc => if_pos hc
  have tgn : ∀ {c : Nat}, zx S ≤ c → (if c < zx S then tg c else tn c) = tn c := fun {c} hc => if_neg (by omega)
  refine ⟨fun c j a1 a2 => ?_, ?_, ?_, ?_, ?_, ?_, ?_, ?_, ⟨fun c => if c < zx S then tg c else tn c, ?_⟩, fun c hc => b10 c (stk c hc), ?_⟩
  · rw [oI c (by omega)]
    exact b1 c j a1 a2
  · unfold jTape
    rw [oI 76 (by omega), oI 77 (by omega), oI 130 (by omega), oI 134 (by omega)]
    exact b2
  · rw [oI 76 (by omega), oI 130 (by omega)]
    exact b3
  · obtain ⟨wc, w1, w2, w3, w4⟩ := b4
    refine ⟨wc, w1, by rw [oI 75 (by omega)]; exact w2, by rw [oI 130 (by omega)]; exact w3, fun i' hi' => ?_⟩
    obtain ⟨o', ra, rb', rc, n, kd, fa, fb, c1, ⟨d0, d1, d2, d3⟩, c2, c3, c4⟩ := w4 i' hi'
    have e90 : zR (zsR S1 b i (some o)) 90 i' = zR S 90 i' := by
      rcases hb with hb | hb
      · subst hb
        have := hw rfl wc w2 w1
        exact rb i' (by omega)
      · rw [oR 90 (by omega) (by omega)]
    refine ⟨o', ra, rb', rc, n, kd, fa, fb, e90.trans c1, ⟨dy d0, dy d1, dy d2, dy d3⟩, c2, ?_, ?_⟩
    · have := d0.1
      obtain ⟨x1, x2, x3, ⟨x4, x5, x6⟩, x7⟩ := c3
      refine ⟨(oC o' d0.2).trans x1, by rw [oI o' d0.2]; exact x2, by rw [oR o' d0.2 (by omega)]; exact x3, ⟨arr d1.2 x4, arr d2.2 x5, arr d3.2 x6⟩, ?_⟩
      rw [oI ra d1.2, oI rb' d2.2, oI rc d3.2]
      exact x7
    · exact c4.cg (oI 136 (by omega)) (oI 137 (by omega)) (oI 138 (by omega)) (oI 139 (by omega))
  · obtain ⟨tc, st, t1, t2, t3, t4, t5, t9, t6⟩ := b5
    refine ⟨tc, st, t1, t2, by rw [oI 75 (by omega)]; exact t3, by rw [oI 130 (by omega)]; exact t4, by rw [oI 130 (by omega)]; exact t5, fun i9 h9 => by rw [r91]; exact t9 i9 h9, fun i' hi' => ?_⟩
    obtain ⟨o2, cs, c1, ⟨k1, ra, rb', rs, k2, ⟨k3, k4⟩, ⟨k5, k6⟩, ⟨j1, ⟨j2, j3, j4⟩, ⟨j5, j6, j7⟩, j8⟩⟩, c3, f, c4, c5⟩ := t6 i' hi'
    have l2 : o2 < zx S := lt (c := 91) (by omega) c1
    have la : ra < zx S := lt (c := o2) (by omega) j2
    have lb : rb' < zx S := lt (c := o2) (by omega) j3
    have ls : rs < zx S := lt (c := o2) (by omega) j4
    have e2 : zR (zsR S1 b i (some o)) o2 = zR S o2 := oR o2 l2 (by omega)
    refine ⟨o2, cs, by rw [r91]; exact c1, ⟨k1, ra, rb', rs, k2, ⟨okc _ k3, okc _ k4⟩, ⟨⟨o2, by omega, (oC o2 l2).trans j1, by rw [e2]; exact j4⟩, k6⟩, (oC o2 l2).trans j1, by rw [e2]; exact ⟨j2, j3, j4⟩, ⟨arr la j5, arr lb j6, arr ls j7⟩, by rw [oI ra la, oI rb' lb]; exact j8⟩, by rw [oI 142 (by omega)]; exact c3, f, c4.cg (oI 140 (by omega)) (oI 141 (by omega)) (oI 143 (by omega)), c5⟩
  · obtain ⟨ic, i1, i2, i3, i4, i5⟩ := b6
    refine ⟨ic, i1, by rw [oI 75 (by omega)]; exact i2, by rw [oI 130 (by omega)]; exact i3, fun i' o' ho' => ?_, fun i' hi' => ?_⟩
    · rcases hb with hb | hb
      · rw [oR 104 (by omega) (by omega)] at ho'
        obtain ⟨a1, rs, a2⟩ := i4 i' o' ho'
        exact ⟨a1, rs, io a2⟩
      · subst hb
        by_cases e : i' = i
        · subst e
          rw [rbi] at ho'
          cases ho'
          obtain ⟨rs, ⟨a1, a2⟩, a3⟩ := hio rfl
          refine ⟨hi.2 rfl, rs, ⟨a1, a2⟩, fun k hk hk3 => ?_⟩
          obtain ⟨c1, c2, c3⟩ := a3 k hk hk3
          exact ⟨by rw [new o ho.1 (by omega)]; exact c1, c2, c3⟩
        · rw [rb i' e] at ho'
          obtain ⟨a1, rs, a2⟩ := i4 i' o' ho'
          exact ⟨a1, rs, io a2⟩
    · obtain ⟨o', rs, a1, a2, a3⟩ := i5 i' hi'
      have e104 : zR (zsR S1 b i (some o)) 104 i' = zR S 104 i' := by
        rcases hb with hb | hb
        · rw [oR 104 (by omega) (by omega)]
        · subst hb
          have := hm rfl ic i2 i1
          exact rb i' (by omega)
      refine ⟨o', rs, e104.trans a1, io a2, ?_⟩
      have dk : ∀ k, k < 12 → k ≠ 3 → zI (zsR S1 b i (some o)) (rs k) = zI S (rs k) := fun k hk hk3 => oI _ (a2.2 k hk hk3).2.1.2
      unfold jSt
      rw [oI o' a2.1.1.2, dk 0 (by omega) (by omega), dk 1 (by omega) (by omega), dk 2 (by omega) (by omega), dk 4 (by omega) (by omega), dk 5 (by omega) (by omega), dk 6 (by omega) (by omega), dk 7 (by omega) (by omega), dk 8 (by omega) (by omega), dk 9 (by omega) (by omega), dk 10 (by omega) (by omega), dk 11 (by omega) (by omega), oI 133 (by omega)]
      exact a3
  · rw [oI 130 (by omega)]
    exact b7
  · rw [oR 125 (by omega) (by omega)]
    exact b8
  · obtain ⟨t1, t2, t3, t4⟩ := b9
    refine ⟨fun i' o' ho' => ?_, fun i' o' ho' => ?_, fun i' o' ho' => ?_, fun o' hn h5 => ?_⟩
    · have old : zR S 90 i' = some o' → i' < 6 ∧ (if o' < zx S then tg o' else tn o') = 1000 + 10 * i' ∧ ∀ k q, k < 3 → zR (zsR S1 b i (some o)) o' k = some q → (if q < zx S then tg q else tn q) = 1001 + 10 * i' + k := fun h9 => by
        obtain ⟨a1, a2, a3⟩ := t1 i' o' h9
        have l1 := lt (c := 90) (by omega) h9
        have l2 := b11.2.2 90 i' o' (by omega) h9
        refine ⟨a1, (tgo l1).trans a2, fun k q hk hq' => ?_⟩
        rw [oR o' l1 (by omega)] at hq'
        exact (tgo (lt (c := o') (fun e => by rw [e] at l2; omega) hq')).trans (a3 k q hk hq')
      rcases hb with hb | hb
      · subst hb
        by_cases e : i' = i
        · subst e
          rw [rbi] at ho'
          cases ho'
          obtain ⟨a1, a2⟩ := ht rfl
          refine ⟨hi.1 rfl, (tgn ho.1).trans a1, fun k q hk hq' => ?_⟩
          rw [new o ho.1 (by omega)] at hq'
          exact (tgn (a2 k q hk hq').1).trans (a2 k q hk hq').2
        · rw [rb i' e] at ho'
          exact old ho'
      · rw [oR 90 (by omega) (by omega)] at ho'
        exact old ho'
    · rw [r91] at ho'
      obtain ⟨a1, a2, a3⟩ := t2 i' o' ho'
      have l1 := lt (c := 91) (by omega) ho'
      have l2 := b11.2.2 91 i' o' (by omega) ho'
      refine ⟨a1, (tgo l1).trans a2, fun k q hk hq' => ?_⟩
      rw [oR o' l1 (by omega)] at hq'
      exact (tgo (lt (c := o') (by omega) hq')).trans (a3 k q hk hq')
    · have old : zR S 104 i' = some o' → i' < 3 ∧ (if o' < zx S then tg o' else tn o') = 3000 + 20 * i' ∧ ∀ k q, k < 12 → zR (zsR S1 b i (some o)) o' k = some q → (if q < zx S then tg q else tn q) = 3001 + 20 * i' + k := fun h9 => by
        obtain ⟨a1, a2, a3⟩ := t3 i' o' h9
        have l1 := lt (c := 104) (by omega) h9
        have l2 := b11.2.2 104 i' o' (by omega) h9
        refine ⟨a1, (tgo l1).trans a2, fun k q hk hq' => ?_⟩
        rw [oR o' l1 (by omega)] at hq'
        exact (tgo (lt (c := o') (by omega) hq')).trans (a3 k q hk hq')
      rcases hb with hb | hb
      · rw [oR 104 (by omega) (by omega)] at ho'
        exact old ho'
      · subst hb
        by_cases e : i' = i
        · subst e
          rw [rbi] at ho'
          cases ho'
          obtain ⟨a1, a2⟩ := ht' rfl
          refine ⟨hi.2 rfl, (tgn ho.1).trans a1, fun k q hk hq' => ?_⟩
          rw [new o ho.1 (by omega)] at hq'
          exact (tgn (a2 k q hk hq').1).trans (a2 k q hk hq').2
        · rw [rb i' e] at ho'
          exact old ho'
    · obtain ⟨y1, y2⟩ := five o' hn h5
      obtain ⟨i9, h9⟩ := t4 o' hn y2
      exact ⟨i9, by rw [r91]; exact h9⟩
  · have cell : ∀ c k q, c ≠ 125 → zR (zsR S1 b i (some o)) c k = some q → (c = b ∧ k = i ∧ q = o) ∨ zR S c k = some q ∨ (zx S ≤ c ∧ c < zx S1 ∧ zR S1 c k = some q) := fun c k q hc h9 => by
      by_cases cb : c = b
      · subst cb
        by_cases e : k = i
        · subst e
          rw [rbi] at h9
          cases h9
          exact Or.inl ⟨rfl, rfl, rfl⟩
        · rw [rb k e] at h9
          exact Or.inr (Or.inl h9)
      · by_cases c1 : c < zx S
        · rw [oR c c1 cb] at h9
          exact Or.inr (Or.inl h9)
        · have e : zR (zsR S1 b i (some o)) c = zR S1 c := zup_ne cb
          rw [e] at h9
          by_cases c2 : c < zx S1
          · exact Or.inr (Or.inr ⟨by omega, c2, h9⟩)
          · rw [(g3 c (by omega)).1] at h9
            exact Or.inr (Or.inl h9)
    refine ⟨fun c k q hc h9 => ?_, fun c k hc h9 => ?_, fun c k q hc h9 => ?_⟩
    · rw [ex]
      rcases cell c k q hc h9 with ⟨-, -, x⟩ | x | ⟨x, y, z⟩
      · omega
      · have := lt hc x
        omega
      · exact (hq c k q x y z).1
    · rcases cell c k 125 hc h9 with ⟨-, -, x⟩ | x | ⟨x, y, z⟩
      · omega
      · exact b11.2.1 c k hc x
      · exact absurd rfl (hq c k 125 x y z).2
    · rcases cell c k q (by omega) h9 with ⟨-, -, x⟩ | x | ⟨x, y, z⟩
      · omega
      · exact b11.2.2 c k q hc x
      · omega
