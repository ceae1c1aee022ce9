/-! whole numbers that hold no word: the object's side -/
def zEW (S : ZSt) (r : Nat) (E : Nat → Nat) : Prop := ∀ j, j < 64 → zI S r j = nI (E j)
def isSp (sp : Nat) : Prop := sp = 1 ∨ sp = 4 ∨ sp = 16 ∨ sp = 64
theorem zand64 {x sp : Nat} (hx : x < 2 ^ 32) (h : isSp sp) : nI x &&& (nI sp - nI 1) = nI (x % sp) := by
  rcases h with rfl | rfl | rfl | rfl
  · exact pk_andN hx 0 (by decide)
  · exact pk_andN hx 2 (by decide)
  · exact pk_andN hx 4 (by decide)
  · exact pk_andN hx 6 (by decide)
theorem zJ.Rw {l : List Nat} {S S1 : ZSt} (h : zJ l S S1) : zR S1 = zR S := by
  show S1.2.2.1 = S.2.2.1
  rw [h.1]
def isR (r : Nat) : Prop := r = 127 ∨ r = 128
theorem isR.A {r : Nat} (h : isR r) {S : ZSt} (hS : zSh S) : zArr S r 64 := by
  rcases h with rfl | rfl
  · exact zA_of hS rfl
  · exact zA_of hS rfl
theorem isR.m {r : Nat} (h : isR r) : zmem r [r] = true := by
  rcases h with rfl | rfl
  · rfl
  · rfl
theorem w_Re_addEnding {w sp x c r : Nat} {E : Nat → Nat} {S : ZSt} {Q : ZOut → ZSt → Prop} (hS : zSh S) (hr : zR S 125 2 = some r) (hr2 : isR r) (hx : x < 256) (hw : w < 256) (hsp : isSp sp) (hE : zEW S r E) (h0 : ∀ e, sp ≤ e → E e = 0) (hQ : ∀ S1 E1, zJ [r] S S1 → zEW S1 r E1 → (∀ e, sp ≤ e → E1 e = 0) → (∀ f : Nat → Nat, sumF (fun e => f e * E1 e) sp = sumF (fun e => f e * E e) sp + Tw w sp f x * c) → Q (.inl none) S1) : zC m_Re_addEnding [.ref 125, .int (nI x), .int (nI c), .int (nI w), .int (nI sp)] S Q := by
  have hs64 : 0 < sp ∧ sp ≤ 64 := by rcases hsp with rfl | rfl | rfl | rfl <;> omega
  have hm : x % sp < sp := Nat.mod_lt _ hs64.1
  refine b_Re_addEnding hS ?_
  rw [zand64 (by omega) hsp, zcl9 (by omega)]
  refine ⟨fun h9 => ?_, fun h9 => ⟨fun h8 => absurd h8 (nI_ge (by omega) (by omega)), fun _ => ⟨hS.1 125 (by omega), r, hr, (hr2.A hS).1, ?_, (hr2.A hS).1, ?_, ?_⟩⟩⟩
  · have e : x = w := nEq (by omega) (by omega) h9
    exact hQ S E zJ.rf hE h0 (fun f => by unfold Tw; rw [if_pos e, Nat.zero_mul]; rfl)
  · rw [(hr2.A hS).2]
    exact zin (by omega) (by omega)
  · rw [(hr2.A hS).2]
    exact zin (by omega) (by omega)
  · rw [hE _ (by omega), nI_add]
    refine hQ _ (fun e => if e = x % sp then E e + c else E e) (zJ.rf.I hr2.m) (fun j hj => ?_) (fun e he => ?_) (fun f => ?_)
    · rw [zI_eq, zupd]
      show (if j = x % sp then _ else _) = nI (if j = x % sp then E j + c else E j)
      by_cases e : j = x % sp
      · rw [if_pos e, if_pos e, e]
      · rw [if_neg e, if_neg e]
        exact hE j hj
    · rw [if_neg (by omega)]
      exact h0 e he
    · rw [sumF_upd, if_pos hm]
      unfold Tw
      rw [if_neg (fun e => h9 (by rw [e]))]
theorem w_Re_l14 {w sp e r1 r2 : Nat} {E : Nat → Nat} {Q : ZOut → ZSt → Prop} (hr1 : isR r1) (hr2 : isR r2) (hn : zmem r1 [r2] = false) (hw : w < 256) (hsp : isSp sp) (he : e < sp) : ∀ (f d : Nat) {S : ZSt} {E' : Nat → Nat}, zSh S → zR S 125 1 = some r1 → zR S 125 2 = some r2 → f + d = 4 → zEW S r1 E → zEW S r2 E' → (∀ e, sp ≤ e → E' e = 0) → (∀ g : Nat → Nat, sumF (fun e => g e * E' e) sp = sumF (fun e => lT w sp g E e 4) e + lT w sp g E e d) → (∀ S1 E1, zJ [r2] S S1 → zEW S1 r2 E1 → (∀ e, sp ≤ e → E1 e = 0) → (∀ g : Nat → Nat, sumF (fun e => g e * E1 e) sp = sumF (fun e => lT w sp g E e 4) (e + 1)) → ∀ u4, zW 2 m_Re_lengthen 6 [some (.ref 125), some (.int (nI w)), some (.int (nI sp)), some (.int (nI (e + 1))), u4] [] S1 Q) → zW 2 m_Re_lengthen 14 [some (.ref 125), some (.int (nI w)), some (.int (nI sp)), some (.int (nI e)), some (.int (nI d))] [] S Q
  | 0, d, S, E', hS, a1, a2, hd, e1, e2, h0, hm, hQ => by
    obtain rfl : d = 4 := by omega
    refine b_Re_lengthen_14 hS ⟨fun _ => ?_, fun h9 => absurd (nI_le (Nat.le_refl _) (by omega)) h9⟩
    rw [nI_add]
    exact hQ S E' zJ.rf e2 h0 hm _
  | f + 1, d, S, E', hS, a1, a2, hd, e1, e2, h0, hm, hQ => by
    have hs64 : 0 < sp ∧ sp ≤ 64 := by rcases hsp with rfl | rfl | rfl | rfl <;> omega
    refine b_Re_lengthen_14 hS ⟨fun h9 => absurd h9 (nI_ge (by omega) (by omega)), fun _ => ⟨hS.1 125 (by omega), r1, a1, (hr1.A hS).1, ?_, ?_⟩⟩
    · rw [(hr1.A hS).2]
      exact zin (by omega) (by omega)
    · rw [zcl9 (by omega), e1 e (by omega), pk_mul, nI_add]
      refine w_Re_addEnding hS a2 hr2 (by omega) hw hsp e2 h0 (fun S1 E1 j1 b1 b2 b3 => b_Re_lengthen_30 (j1.sh hS) ?_)
      rw [nI_add]
      refine w_Re_l14 hr1 hr2 hn hw hsp he f (d + 1) (j1.sh hS) (by rw [j1.Rw]; exact a1) (by rw [j1.Rw]; exact a2) (by omega) (fun j hj => by rw [j1.2 r1 hn]; exact e1 j hj) b1 b2 (fun g => ?_) (fun S2 E2 j2 => hQ S2 E2 (j1.tr j2))
      rw [b3 g, hm g]
      show _ = _ + (lT w sp g E e d + Tw w sp g (4 * e + d) * E e)
      omega
theorem w_Re_l6 {w sp r1 r2 : Nat} {E : Nat → Nat} {Q : ZOut → ZSt → Prop} (hr1 : isR r1) (hr2 : isR r2) (hn : zmem r1 [r2] = false) (hw : w < 256) (hsp : isSp sp) : ∀ (f e : Nat) {S : ZSt} {E' : Nat → Nat} {u4 : Option Value}, zSh S → zR S 125 1 = some r1 → zR S 125 2 = some r2 → f + e = sp → zEW S r1 E → zEW S r2 E' → (∀ e, sp ≤ e → E' e = 0) → (∀ g : Nat → Nat, sumF (fun e => g e * E' e) sp = sumF (fun e => lT w sp g E e 4) e) → (∀ S1 E1, zJ [r2] S S1 → zEW S1 r2 E1 → (∀ e, sp ≤ e → E1 e = 0) → (∀ g : Nat → Nat, sumF (fun e => g e * E1 e) sp = sumF (fun e => lT w sp g E e 4) sp) → Q (.inl none) S1) → zW 2 m_Re_lengthen 6 [some (.ref 125), some (.int (nI w)), some (.int (nI sp)), some (.int (nI e)), u4] [] S Q
  | 0, e, S, E', u4, hS, a1, a2, hd, e1, e2, h0, hm, hQ => by
    have hs64 : 0 < sp ∧ sp ≤ 64 := by rcases hsp with rfl | rfl | rfl | rfl <;> omega
    obtain rfl : e = sp := by omega
    exact b_Re_lengthen_6 hS ⟨fun _ => hQ S E' zJ.rf e2 h0 hm, fun h9 => absurd (nI_le (Nat.le_refl _) (by omega)) h9⟩
  | f + 1, e, S, E', u4, hS, a1, a2, hd, e1, e2, h0, hm, hQ => by
    have hs64 : 0 < sp ∧ sp ≤ 64 := by rcases hsp with rfl | rfl | rfl | rfl <;> omega
    refine b_Re_lengthen_6 hS ⟨fun h9 => absurd h9 (nI_ge (by omega) (by omega)), fun _ => ⟨fun h9 => absurd h9 (nI_ge (by omega) (by omega)), fun _ => ?_⟩⟩
    exact w_Re_l14 hr1 hr2 hn hw hsp (by omega) 4 0 hS a1 a2 (by omega) e1 e2 h0 (fun g => hm g) (fun S1 E1 j1 b1 b2 b3 u4 => w_Re_l6 hr1 hr2 hn hw hsp f (e + 1) (j1.sh hS) (by rw [j1.Rw]; exact a1) (by rw [j1.Rw]; exact a2) (by omega) (fun j hj => by rw [j1.2 r1 hn]; exact e1 j hj) b1 b2 b3 (fun S2 E2 j2 => hQ S2 E2 (j1.tr j2)))
theorem w_Re_lengthen {w sp r1 r2 : Nat} {E : Nat → Nat} {S : ZSt} {Q : ZOut → ZSt → Prop} (hS : zSh S) (hr1 : isR r1) (hr2 : isR r2) (hn : zmem r1 [r2] = false) (hw : w < 256) (hsp : isSp sp) (a1 : zR S 125 1 = some r1) (a2 : zR S 125 2 = some r2) (e1 : zEW S r1 E) (hQ : ∀ S1 E1, zJ [r2] S S1 → zEW S1 r2 E1 → (∀ e, sp ≤ e → E1 e = 0) → (∀ g : Nat → Nat, sumF (fun e => g e * E1 e) sp = sumF (fun e => lT w sp g E e 4) sp) → Q (.inl none) S1) : zC m_Re_lengthen [.ref 125, .int (nI w), .int (nI sp)] S Q := by
  refine b_Re_lengthen hS ⟨hS.1 125 (by omega), r2, a2, w_JA_fill hS (hr2.A hS) (by omega) (fun S1 j1 f1 => b_Re_lengthen_4 (j1.sh hS) ?_)⟩
  exact w_Re_l6 hr1 hr2 hn hw hsp sp 0 (E' := fun _ => 0) (j1.sh hS) (by rw [j1.Rw]; exact a1) (by rw [j1.Rw]; exact a2) (by omega) (fun j hj => by rw [j1.2 r1 hn]; exact e1 j hj) (fun j hj => f1 j hj) (fun _ _ => rfl) (fun g => sumF_zero _ (fun k _ => Nat.mul_zero _)) (fun S2 E2 j2 => hQ S2 E2 (j1.tr j2))

theorem zush2 {n i : Nat} (hn : n < 2 ^ 30) (hi : i ≤ 14) : zUshr (nI n) (nI 2 * nI i) &&& nI 3 = nI (n / 4 ^ i % 4) := by
  have e : zUshr (nI n) (nI 2 * nI i) = nI (n / 2 ^ (2 * i)) := by
    rw [pk_mul]
    have : ∀ i, i < 15 → zUshr (nI n) (nI (2 * i)) = nI (n / 2 ^ (2 * i)) := by
      intro i hi
      refine pk_ushrN (by omega) _ (2 * i) ?_
      revert i
      decide
    exact this i (by omega)
  have hb : n / 2 ^ (2 * i) < 2 ^ 32 := Nat.lt_of_le_of_lt (Nat.div_le_self _ _) (by omega)
  rw [e, pk_andN hb 2 (by decide), Nat.pow_mul]
/-- what a whole count may change -/
def zGW (S S' : ZSt) : Prop := S'.2.2.2 = S.2.2.2 ∧ (∀ c, c ≠ 125 → zR S' c = zR S c) ∧ (∀ k, k ≠ 1 → k ≠ 2 → zR S' 125 k = zR S 125 k) ∧ (zSwp (zR S 125) → zSwp (zR S' 125)) ∧ ∀ c, c ≠ 127 → c ≠ 128 → zI S' c = zI S c
theorem zGW.rf {S : ZSt} : zGW S S := ⟨rfl, fun _ _ => rfl, fun _ _ _ => rfl, id, fun _ _ _ => rfl⟩
theorem zGW.tr {S S1 S2 : ZSt} (h1 : zGW S S1) (h2 : zGW S1 S2) : zGW S S2 := ⟨h2.1.trans h1.1, fun c a => (h2.2.1 c a).trans (h1.2.1 c a), fun k a b => (h2.2.2.1 k a b).trans (h1.2.2.1 k a b), fun h => h2.2.2.2.1 (h1.2.2.2.1 h), fun c a b => (h2.2.2.2.2 c a b).trans (h1.2.2.2.2 c a b)⟩
theorem zGW.sh {S S1 : ZSt} (h : zGW S S1) (hS : zSh S) : zSh S1 := by
  have e1 : zc S1 = zc S := by show S1.2.2.2.2.1 = S.2.2.2.2.1; rw [h.1]
  have e2 : zn S1 = zn S := by show S1.2.2.2.1 = S.2.2.2.1; rw [h.1]
  have e4 : zx S1 = zx S := by show S1.2.2.2.2.2.1 = S.2.2.2.2.2.1; rw [h.1]
  unfold zSh
  rw [e1, e2, e4]
  refine ⟨hS.1, hS.2.1, fun k j q hq => ?_, hS.2.2.2⟩
  by_cases e : k = 125
  · subst e
    rw [h.2.2.1 j (fun e => by subst e; cases hq) (fun e => by subst e; cases hq)]
    exact hS.2.2.1 125 j q hq
  · rw [h.2.1 k e]
    exact hS.2.2.1 k j q hq
theorem zGW.h {S S1 : ZSt} (h : zGW S S1) : zH lO S S1 := ⟨h.1, h.2.1, h.2.2.2.1, fun c hc _ => h.2.2.2.2 c (fun e => by rw [e] at hc; cases hc) (fun e => by rw [e] at hc; cases hc)⟩
theorem zGW.ofJ {S S1 : ZSt} {r : Nat} (hr : isR r) (h : zJ [r] S S1) : zGW S S1 := by
  have e := h.Rw
  refine ⟨by rw [h.1], fun c _ => by rw [e], fun k _ _ => by rw [e], fun h9 => by rw [e]; exact h9, fun c a b => h.2 c ?_⟩
  rcases hr with rfl | rfl
  · exact zmemC a rfl
  · exact zmemC b rfl
def ow : Option Nat → Int32
  | none => - nI 1
  | some o => nI o
theorem zneq1 {o : Nat} (h : o < 2 ^ 31) : ¬ nI o = - nI 1 := fun e => nI_pos h (by rw [e]; decide)
theorem w_Re_w42 {w sp g r2 o : Nat} {x1 x5 : Int32} {B : (Nat → Nat) → Nat} {Q : ZOut → ZSt → Prop} (hr2 : isR r2) (hw : w < 256) (hsp : isSp sp) (ho : o < sp) (hg : g < 4) : ∀ (f d : Nat) {S : ZSt} {E' : Nat → Nat}, zSh S → zR S 125 2 = some r2 → f + d = g → zEW S r2 E' → (∀ e, sp ≤ e → E' e = 0) → (∀ h : Nat → Nat, sumF (fun e => h e * E' e) sp = B h + sumF (fun d => Tw w sp h (4 * o + d)) d) → (∀ S1 E1, zJ [r2] S S1 → zEW S1 r2 E1 → (∀ e, sp ≤ e → E1 e = 0) → (∀ h : Nat → Nat, sumF (fun e => h e * E1 e) sp = B h + sumF (fun d => Tw w sp h (4 * o + d)) g) → ∀ x7, zW 3 m_Re_wholeNumbers 60 [some (.ref 125), some (.int x1), some (.int (nI w)), some (.int (nI sp)), some (.int (nI o)), some (.int x5), some (.int (nI g)), some (.int x7)] [] S1 Q) → zW 3 m_Re_wholeNumbers 42 [some (.ref 125), some (.int x1), some (.int (nI w)), some (.int (nI sp)), some (.int (nI o)), some (.int x5), some (.int (nI g)), some (.int (nI d))] [] S Q
  | 0, d, S, E', hS, a2, hd, e2, h0, hm, hQ => by
    obtain rfl : d = g := by omega
    exact b_Re_wholeNumbers_42 hS ⟨fun _ => hQ S E' zJ.rf e2 h0 hm _, fun h9 => absurd (nI_le (Nat.le_refl _) (by omega)) h9⟩
  | f + 1, d, S, E', hS, a2, hd, e2, h0, hm, hQ => by
    have hs64 : 0 < sp ∧ sp ≤ 64 := by rcases hsp with rfl | rfl | rfl | rfl <;> omega
    refine b_Re_wholeNumbers_42 hS ⟨fun h9 => absurd h9 (nI_ge (by omega) (by omega)), fun _ => ⟨fun h9 => absurd h9 (zneq1 (by omega)), fun _ => ?_⟩⟩
    rw [pk_mul, nI_add]
    refine w_Re_addEnding hS a2 hr2 (by omega) hw hsp e2 h0 (fun S1 E1 j1 b1 b2 b3 => b_Re_wholeNumbers_58 (j1.sh hS) ?_)
    rw [nI_add]
    refine w_Re_w42 hr2 hw hsp ho hg f (d + 1) (j1.sh hS) (by rw [j1.Rw]; exact a2) (by omega) b1 b2 (fun h => ?_) (fun S2 E2 j2 => hQ S2 E2 (j1.tr j2))
    rw [b3 h, hm h, Nat.mul_one]
    show _ = _ + (sumF (fun d => Tw w sp h (4 * o + d)) d + Tw w sp h (4 * o + d))
    omega
theorem w_Re_w101 {r : Nat} {a : Nat} {E : Nat → Nat} {x1 x2 x3 x4 : Int32} {u7 : Option Value} {S : ZSt} {Q : ZOut → ZSt → Prop} (hS : zSh S) (hr : isR r) (a1 : zR S 125 1 = some r) (e1 : zEW S r E) (hQ : Q (.inl (some (.int (nI (a + sumF E 64))))) S) : ∀ (f k : Nat), f + k = 64 → zW 3 m_Re_wholeNumbers 101 [some (.ref 125), some (.int x1), some (.int x2), some (.int x3), some (.int x4), some (.int (nI (a + sumF E k))), some (.int (nI k)), u7] [] S Q
  | 0, k, hk => by
    obtain rfl : k = 64 := by omega
    exact b_Re_wholeNumbers_101 hS ⟨fun _ => hQ, fun h9 => absurd (nI_le (Nat.le_refl _) (by omega)) h9⟩
  | f + 1, k, hk => by
    refine b_Re_wholeNumbers_101 hS ⟨fun h9 => absurd h9 (nI_ge (by omega) (by omega)), fun _ => ⟨hS.1 125 (by omega), r, a1, (hr.A hS).1, ?_, ?_⟩⟩
    · rw [(hr.A hS).2]
      exact zin (by omega) (by omega)
    · rw [zcl9 (by omega), e1 k (by omega), nI_add, nI_add, show a + sumF E k + E k = a + sumF E (k + 1) from Nat.add_assoc _ _ _]
      exact w_Re_w101 hS hr a1 e1 hQ f (k + 1) (by omega)
theorem zGW.swap {S : ZSt} {r1 r2 : Nat} (a1 : zR S 125 1 = some r1) (a2 : zR S 125 2 = some r2) : zGW S (zsR (zsR S 125 1 (some r2)) 125 2 (some r1)) ∧ zR (zsR (zsR S 125 1 (some r2)) 125 2 (some r1)) 125 1 = some r2 ∧ zR (zsR (zsR S 125 1 (some r2)) 125 2 (some r1)) 125 2 = some r1 := by
  have e1 : zR (zsR (zsR S 125 1 (some r2)) 125 2 (some r1)) 125 = va_up (va_up (zR S 125) 1 (some r2)) 2 (some r1) := by
    have e0 : zR (zsR S 125 1 (some r2)) 125 = va_up (zR S 125) 1 (some r2) := va_up_self (zR S) 125 _
    have e9 : zR (zsR (zsR S 125 1 (some r2)) 125 2 (some r1)) 125 = va_up (zR (zsR S 125 1 (some r2)) 125) 2 (some r1) := va_up_self (zR (zsR S 125 1 (some r2))) 125 _
    rw [e9, e0]
  have f1 : zR (zsR (zsR S 125 1 (some r2)) 125 2 (some r1)) 125 1 = some r2 := by
    rw [e1, zup_ne (by omega), va_up_self]
  have f2 : zR (zsR (zsR S 125 1 (some r2)) 125 2 (some r1)) 125 2 = some r1 := by
    rw [e1, va_up_self]
  refine ⟨⟨rfl, fun c hc => (zup_ne hc).trans (zup_ne hc), fun k h1 h2 => by rw [e1, zup_ne h2, zup_ne h1], fun h => ?_, fun _ _ _ => rfl⟩, f1, f2⟩
  rcases h with ⟨h1, h2⟩ | ⟨h1, h2⟩
  · refine Or.inr ⟨?_, ?_⟩
    · rw [f1, ← a2, h2]
    · rw [f2, ← a1, h1]
  · refine Or.inl ⟨?_, ?_⟩
    · rw [f1, ← a2, h2]
    · rw [f2, ← a1, h1]
theorem w_Re_w26 {n w m : Nat} {st : Nat → Nat} {Q : ZOut → ZSt → Prop} (hst : okSt w m st) (hn : n < 2 ^ 30) (hw : w < 256) (hsp : isSp (4 ^ (m - 1))) : ∀ (f k : Nat) {r1 r2 : Nat} {S : ZSt} {E : Nat → Nat} {own : Option Nat} {u6 u7 : Option Value}, zSh S → isR r1 → isR r2 → zmem r1 [r2] = false → zmem r2 [r1] = false → zR S 125 1 = some r1 → zR S 125 2 = some r2 → f + k = 15 → zEW S r1 E → cW st m (4 ^ (m - 1)) E own (PV w m n k) → (∀ S', zGW S S' → Q (.inl (some (.int (nI (aW w m n))))) S') → zW 3 m_Re_wholeNumbers 26 [some (.ref 125), some (.int (nI n)), some (.int (nI w)), some (.int (nI (4 ^ (m - 1)))), some (.int (ow own)), some (.int (nI f - nI 1)), u6, u7] [] S Q
  | 0, k, r1, r2, S, E, own, u6, u7, hS, hr1, hr2, hn1, hn2, a1, a2, hk, e1, hc, hQ => by
    obtain rfl : k = 15 := by omega
    have hs64 : 0 < 4 ^ (m - 1) ∧ 4 ^ (m - 1) ≤ 64 := by rcases hsp with h | h | h | h <;> rw [h] <;> omega
    have hs : sumF E 64 = sumF (PV w m n 15).1 m := by
      rw [show 64 = 4 ^ (m - 1) + (64 - 4 ^ (m - 1)) by omega, sumF_tail _ hc.2.1, sumF_ext (g := fun e => (fun _ => 1) (st e) * E e) _ (fun k _ => (Nat.one_mul _).symm), sumF_st (h := fun _ => 1) _ (fun e he => (hst.2 e he).1)]
      exact sumF_ext _ (fun s hs => by rw [hc.1 s hs, Nat.one_mul])
    have hq := hQ S zGW.rf
    unfold aW at hq
    rw [← hs] at hq
    refine b_Re_wholeNumbers_26 hS ⟨fun _ => ⟨fun h9 => ?_, fun h9 => ?_⟩, fun h9 => absurd (by decide) h9⟩
    · rcases hc.2.2 with ⟨a, b⟩ | ⟨o, a, b, c, d⟩
      · rw [a] at h9
        exact absurd rfl h9
      · rw [if_neg (by omega), Nat.add_comm] at hq
        exact w_Re_w101 (a := 1) hS hr1 a1 e1 hq 64 0 (by omega)
    · rcases hc.2.2 with ⟨a, b⟩ | ⟨o, a, b, c, d⟩
      · rw [if_pos b, Nat.add_comm] at hq
        exact w_Re_w101 (a := 0) hS hr1 a1 e1 hq 64 0 (by omega)
      · rw [a] at h9
        exact absurd (zneq1 (by omega)) h9
  | f + 1, k, r1, r2, S, E, own, u6, u7, hS, hr1, hr2, hn1, hn2, a1, a2, hk, e1, hc, hQ => by
    have hs64 : 0 < 4 ^ (m - 1) ∧ 4 ^ (m - 1) ≤ 64 := by rcases hsp with h | h | h | h <;> rw [h] <;> omega
    rw [pk_sub (by omega), show f + 1 - 1 = f by omega]
    refine b_Re_wholeNumbers_26 hS ⟨fun h9 => absurd h9 (nI_pos (by omega)), fun _ => ?_⟩
    rw [zush2 hn (by omega)]
    have hg : n / 4 ^ f % 4 < 4 := Nat.mod_lt _ (by omega)
    have hPV : PV w m n (k + 1) = stp w m (n / 4 ^ f % 4) (PV w m n k) := by
      show stp w m (n / 4 ^ (14 - k) % 4) (PV w m n k) = _
      rw [show 14 - k = f by omega]
    generalize n / 4 ^ f % 4 = g at *
    refine w_Re_lengthen hS hr1 hr2 hn1 hw hsp a1 a2 e1 (fun S1 E1 j1 b1 b2 b3 => b_Re_wholeNumbers_40 (j1.sh hS) ?_)
    have hS1 := j1.sh hS
    have c1 : zR S1 125 1 = some r1 := by rw [j1.Rw]; exact a1
    have c2 : zR S1 125 2 = some r2 := by rw [j1.Rw]; exact a2
    have last : ∀ {S2 : ZSt} {E2 : Nat → Nat} {own' : Option Nat}, zJ [r2] S1 S2 → zEW S2 r2 E2 → (∀ e, 4 ^ (m - 1) ≤ e → E2 e = 0) → (∀ h : Nat → Nat, sumF (fun e => h e * E2 e) (4 ^ (m - 1)) = sumF (fun e => lT w (4 ^ (m - 1)) h E e 4) (4 ^ (m - 1)) + oT w (4 ^ (m - 1)) h own g) → own' = oN w (4 ^ (m - 1)) own g → ∀ {x6 : Option Value} {u7 : Nat → Option Value}, zc S2 125 = 0 ∧ ∃ r81, zR S2 125 1 = some r81 ∧ (zc S2 125 = 0 ∧ ∃ r85, zR S2 125 2 = some r85 ∧ (zTr 125 1 = none ∧ zc S2 125 = 0 ∧ (zTr 125 2 = none ∧ zc (zsR S2 125 1 (some r85)) 125 = 0 ∧ zW 3 m_Re_wholeNumbers 26 [some (.ref 125), some (.int (nI n)), some (.int (nI w)), some (.int (nI (4 ^ (m - 1)))), some (.int (ow own')), some (.int (nI f + (- nI 1))), x6, u7 r81] [] (zsR (zsR S2 125 1 (some r85)) 125 2 (some r81)) Q))) := fun {S2 E2 own'} j2 d1 d2 d3 ho {x6 u7} => by
      have hS2 := j2.sh hS1
      have f1 : zR S2 125 1 = some r1 := by rw [j2.Rw]; exact c1
      have f2 : zR S2 125 2 = some r2 := by rw [j2.Rw]; exact c2
      obtain ⟨g1, g2, g3⟩ := zGW.swap f1 f2
      refine ⟨hS2.1 125 (by omega), r1, f1, hS2.1 125 (by omega), r2, f2, rfl, hS2.1 125 (by omega), rfl, hS2.1 125 (by omega), ?_⟩
      rw [← Int32.sub_eq_add_neg, ho]
      refine w_Re_w26 hst hn hw hsp f (k + 1) (g1.sh hS2) hr2 hr1 hn2 hn1 g2 g3 (by omega) (E := E2) d1 ?_ (fun S' z => hQ S' ((((zGW.ofJ hr2 j1).tr (zGW.ofJ hr2 j2)).tr g1).tr z))
      rw [hPV]
      exact cW_s hst hg hc d3 d2
    rcases hc.2.2 with ⟨a, b⟩ | ⟨o, a, b, c, d⟩
    · subst a
      have body : ∀ x7, zW 3 m_Re_wholeNumbers 60 [some (.ref 125), some (.int (nI n)), some (.int (nI w)), some (.int (nI (4 ^ (m - 1)))), some (.int (ow none)), some (.int (nI f)), some (.int (nI g)), some (.int x7)] [] S1 Q := fun x7 => b_Re_wholeNumbers_60 hS1 ⟨fun _ => last (own' := none) (u7 := fun r => some (.ref r)) zJ.rf b1 b2 b3 rfl, fun h9 => absurd rfl h9⟩
      exact b_Re_wholeNumbers_42 hS1 ⟨fun _ => body _, fun _ => ⟨fun _ => body _, fun h9 => absurd rfl h9⟩⟩
    · subst a
      refine w_Re_w42 hr2 hw hsp b hg g 0 hS1 c2 (by omega) b1 b2 (fun h => b3 h) (fun S2 E2 j2 d1 d2 d3 x7 => b_Re_wholeNumbers_60 (j2.sh hS1) ?_)
      rw [pk_mul, nI_add, zand64 (by omega) hsp]
      refine ⟨fun h9 => absurd h9 (zneq1 (by omega)), fun _ => ⟨fun h9 => ?_, fun h9 => ?_⟩⟩
      · have e : ¬ 4 * o + g = w := fun e => h9 (by rw [e])
        exact last (own' := some ((4 * o + g) % 4 ^ (m - 1))) (u7 := fun r => some (.ref r)) j2 d1 d2 d3 (by unfold oN; exact (if_neg e).symm)
      · have e : 4 * o + g = w := nEq (by omega) (by omega) (Classical.not_not.mp h9)
        exact last (own' := none) (u7 := fun r => some (.ref r)) j2 d1 d2 d3 (by unfold oN; exact (if_pos e).symm)
theorem mW_eq {w x : Nat} (h1 : 4 ^ x ≤ w) (h2 : w < 4 ^ (x + 1)) (h : x ≤ 3) : mW w = x + 1 := by
  have : x = 0 ∨ x = 1 ∨ x = 2 ∨ x = 3 := by omega
  unfold mW
  rcases this with rfl | rfl | rfl | rfl
  · rw [if_pos (by omega)]
  · rw [if_neg (by omega), if_pos (by omega)]
  · rw [if_neg (by omega), if_neg (by omega), if_pos (by omega)]
  · rw [if_neg (by omega), if_neg (by omega), if_neg (by omega)]
theorem isSp_p {x : Nat} (h : x ≤ 3) : isSp (4 ^ x) := by
  have : x = 0 ∨ x = 1 ∨ x = 2 ∨ x = 3 := by omega
  rcases this with rfl | rfl | rfl | rfl
  · exact Or.inl rfl
  · exact Or.inr (Or.inl rfl)
  · exact Or.inr (Or.inr (Or.inl rfl))
  · exact Or.inr (Or.inr (Or.inr rfl))
theorem w_Re_w4 {n w r1 : Nat} {S : ZSt} {Q : ZOut → ZSt → Prop} (hS : zSh S) (hr1 : isR r1) (a1 : zR S 125 1 = some r1) (hw1 : 1 ≤ w) (hw : w < 256) (hQ : ∀ S1, zJ [r1] S S1 → (∀ j, j < 64 → zI S1 r1 j = nI 0) → ∀ x4, zW 3 m_Re_wholeNumbers 22 [some (.ref 125), some (.int (nI n)), some (.int (nI w)), some (.int (nI (4 ^ (mW w - 1)))), some (.int x4), none, none, none] [] S1 Q) : ∀ (f x : Nat), f + x = 3 → 4 ^ x ≤ w → zW 3 m_Re_wholeNumbers 4 [some (.ref 125), some (.int (nI n)), some (.int (nI w)), some (.int (nI (4 ^ x))), some (.int (nI x)), none, none, none] [] S Q
  | 0, x, hx, h1 => by
    obtain rfl : x = 3 := by omega
    have e := mW_eq (x := 3) h1 (by omega) (by omega)
    rw [e] at hQ
    exact b_Re_wholeNumbers_4 hS ⟨fun _ => ⟨hS.1 125 (by omega), r1, a1, w_JA_fill hS (hr1.A hS) (by omega) (fun S1 j1 f1 => hQ S1 j1 f1 _)⟩, fun h9 => absurd (nI_le (Nat.le_refl _) (by omega)) h9⟩
  | f + 1, x, hx, h1 => by
    have hp : 4 ^ (x + 1) ≤ 64 := Nat.le_trans (Nat.pow_le_pow_right (by omega) (show x + 1 ≤ 3 by omega)) (by decide)
    refine b_Re_wholeNumbers_4 hS ⟨fun h9 => absurd h9 (nI_ge (by omega) (by omega)), fun _ => ?_⟩
    rw [pk_mul, ← Nat.pow_succ, nI_add]
    refine ⟨fun h9 => ?_, fun h9 => ?_⟩
    · have h2 : w < 4 ^ (x + 1) := Nat.not_le.mp (fun h8 => nI_nlt h8 (by omega) h9)
      have e := mW_eq h1 h2 (by omega)
      rw [e, show x + 1 - 1 = x by omega] at hQ
      exact ⟨hS.1 125 (by omega), r1, a1, w_JA_fill hS (hr1.A hS) (by omega) (fun S1 j1 f1 => hQ S1 j1 f1 _)⟩
    · exact w_Re_w4 hS hr1 a1 hw1 hw hQ f (x + 1) (by omega) (Nat.not_lt.mp (fun h8 => h9 (nI_lt h8 (by omega))))
theorem mW_r {w : Nat} : 1 ≤ mW w ∧ mW w ≤ 4 := by
  unfold mW
  split
  · omega
  · split
    · omega
    · split <;> omega
theorem w_Re_wholeNumbers {n w : Nat} {S : ZSt} {Q : ZOut → ZSt → Prop} (hS : zSh S) (hZ : zSwp (zR S 125)) (hn : n < 2 ^ 30) (hw1 : 1 ≤ w) (hw : w ≤ 255) (hQ : ∀ S', zGW S S' → Q (.inl (some (.int (nI (aW w (mW w) n))))) S') : zC m_Re_wholeNumbers [.ref 125, .int (nI n), .int (nI w)] S Q := by
  obtain ⟨st, h1, h2⟩ := stW hw1 hw
  have hm := mW_r (w := w)
  have main : ∀ {r1 r2 : Nat}, isR r1 → isR r2 → zmem r1 [r2] = false → zmem r2 [r1] = false → zR S 125 1 = some r1 → zR S 125 2 = some r2 → zC m_Re_wholeNumbers [.ref 125, .int (nI n), .int (nI w)] S Q := fun {r1 r2} hr1 hr2 hn1 hn2 a1 a2 => by
    refine b_Re_wholeNumbers hS (w_Re_w4 hS hr1 a1 hw1 (by omega) (fun S1 j1 f1 x4 => b_Re_wholeNumbers_22 (j1.sh hS) ?_) 3 0 (by omega) hw1)
    refine w_Re_w26 (st := st) ⟨h1, h2⟩ hn (by omega) (isSp_p (by omega)) 15 0 (own := some 0) (E := fun _ => 0) (j1.sh hS) hr1 hr2 hn1 hn2 (by rw [j1.Rw]; exact a1) (by rw [j1.Rw]; exact a2) (by omega) f1 ⟨fun j _ => sumF_zero _ (fun _ _ => Nat.mul_zero _), fun _ _ => rfl, Or.inr ⟨0, rfl, Nat.pow_pos (by omega), h1, by show 0 < mW w; omega⟩⟩ (fun S' z => hQ S' ((zGW.ofJ hr1 j1).tr z))
  rcases hZ with ⟨a, b⟩ | ⟨a, b⟩
  · exact main (Or.inl rfl) (Or.inr rfl) rfl rfl a b
  · exact main (Or.inr rfl) (Or.inl rfl) rfl rfl a b
