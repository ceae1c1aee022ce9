/-! Int32 as numbers; what the object and the reference hold alike -/
theorem zinl {k n : Nat} (h : (Nat.blt k n && Nat.blt n 2000000000) = true) : vp_in (nI k) n := by
  have h1 : k < n := Nat.le_of_ble_eq_true (zand h).1
  have h2 : n < 2000000000 := Nat.le_of_ble_eq_true (zand h).2
  exact nI_in h1 (by omega)
theorem zin {k n : Nat} (h : k < n) (hn : n < 2 ^ 31) : vp_in (nI k) n := nI_in h hn
/-- an int that isn't below nought is a number -/
theorem znat {x : Int32} (h : ¬ x < nI 0) : ∃ n, n < 2 ^ 31 ∧ x = nI n := nI_of (by rw [nI_0] at h; exact h)
theorem znum {x : Int32} {m : Nat} (h : ¬ x < nI 0) (hm : m < 2 ^ 31) (h2 : x ≤ nI m) : ∃ n, n ≤ m ∧ x = nI n := by
  obtain ⟨n, hn, rfl⟩ := znat h
  exact ⟨n, (nI_leI hn hm).mp h2, rfl⟩
theorem zsub1 {m : Nat} (h : 0 < m) : nI m - nI 1 = nI (m - 1) := by
  obtain ⟨k, rfl⟩ : ∃ k, m = k + 1 := ⟨m - 1, by omega⟩
  exact nI_pred k
theorem zlt {x y : Int32} : x < y ↔ x.toInt < y.toInt := Int32.lt_iff_toInt_lt
theorem zle9 {x y : Int32} : x ≤ y ↔ x.toInt ≤ y.toInt := Int32.le_iff_toInt_le
theorem zcl9 {n : Nat} (h : n < 2 ^ 31) : (nI n).toNatClampNeg = n := nI_clamp h
/-- one cell, others -/
theorem zI_eq (S : ZSt) (a k : Nat) (v : Int32) : zI (zsI S a k v) a = upd (zI S a) k v := va_up_self _ _ _
theorem zI_ne {S : ZSt} {a c : Nat} (k : Nat) (v : Int32) (h : c ≠ a) : zI (zsI S a k v) c = zI S c := zup_ne h
theorem zI_L (S : ZSt) (a k : Nat) (v : Int64) (c : Nat) : zI (zsL S a k v) c = zI S c := rfl
theorem zI_T (S : ZSt) (c : Nat) : zI (zThr S) c = zI S c := rfl
theorem zupd {f : Nat → Int32} {k j : Nat} {v : Int32} : upd f k v j = if j = k then v else f j := by
  unfold upd
  split <;> simp_all
/-- a state of the object, cell by cell, is what the reference keeps in f -/
def jRg (x : Int32) (lo hi : Nat) : Prop := ∃ n, lo ≤ n ∧ n ≤ hi ∧ x = nI n
def jVal (f : Nat → Int32) : Prop := jRg (f 0) 1 12 ∧ jRg (f 1) 0 24 ∧ jRg (f 2) 1 24 ∧ jRg (f 3) 0 3 ∧ jRg (f 4) 0 1 ∧ jRg (f 5) 0 1
def jA (g f : Nat → Int32) : Prop := (∀ j, j < 6 → g j = f j) ∧ jVal f
def jB (off n : Nat) (g f : Nat → Int32) : Prop := ∀ j, j < n → g j = f (off + j)
def jW (off n hi : Nat) (g f : Nat → Int32) : Prop := ∀ j, j < n → g j = f (off + j) ∧ jRg (f (off + j)) 0 hi
def jD (r : Int32) (o lh lp f : Nat → Int32) : Prop := jRg (f 6) 0 1 ∧ r = f 6 ∧ (f 6 = nI 1 → jB 7 4 o f ∧ jW 47 12 1000000000 lh f ∧ jW 59 24 3 lp f)
def jK (g f : Nat → Int32) : Prop := ∀ j, j < 10 → g j = f (215 + j) ∧ (f (215 + j) = - nI 1 ∨ ∃ n, n < j ∧ f (215 + j) = nI n)
def jSt (I : Nat → Nat → Int32) (cs cv ch cp co clh clp cw cm cg ct ck : Nat) (f : Nat → Int32) : Prop :=
  jA (I cv) f ∧ jW 11 12 1000000000 (I ch) f ∧ jW 23 24 3 (I cp) f ∧ jD (I cs 3) (I co) (I clh) (I clp) f ∧ jW 83 24 99 (I cw) f ∧ jW 107 36 1 (I cm) f ∧ jW 143 36 99 (I cg) f ∧ jW 179 36 99 (I ct) f ∧ jK (I ck) f
theorem jA.keep {g f f' : Nat → Int32} (h : jA g f) (hf : ∀ j, j < 6 → f' j = f j) : jA g f' := by
  refine ⟨fun j hj => (h.1 j hj).trans (hf j hj).symm, ?_⟩
  unfold jVal
  rw [hf 0 (by omega), hf 1 (by omega), hf 2 (by omega), hf 3 (by omega), hf 4 (by omega), hf 5 (by omega)]
  exact h.2
theorem jB.keep {off n : Nat} {g f f' : Nat → Int32} (h : jB off n g f) (hf : ∀ j, off ≤ j → j < off + n → f' j = f j) : jB off n g f' := fun j hj => by
  rw [hf (off + j) (by omega) (by omega)]
  exact h j hj
theorem jW.keep {off n hi : Nat} {g f f' : Nat → Int32} (h : jW off n hi g f) (hf : ∀ j, off ≤ j → j < off + n → f' j = f j) : jW off n hi g f' := fun j hj => by
  rw [hf (off + j) (by omega) (by omega)]
  exact h j hj
theorem jD.keep {r : Int32} {o lh lp f f' : Nat → Int32} (h : jD r o lh lp f) (hf : ∀ j, 6 ≤ j → j < 11 ∨ 47 ≤ j → j < 83 → f' j = f j) : jD r o lh lp f' := by
  unfold jD
  rw [hf 6 (by omega) (by omega) (by omega)]
  refine ⟨h.1, h.2.1, fun e => ?_⟩
  obtain ⟨h1, h2, h3⟩ := h.2.2 e
  exact ⟨h1.keep fun j a b => hf j (by omega) (by omega) (by omega), h2.keep fun j a b => hf j (by omega) (by omega) (by omega), h3.keep fun j a b => hf j (by omega) (by omega) (by omega)⟩
theorem jK.keep {g f f' : Nat → Int32} (h : jK g f) (hf : ∀ j, 215 ≤ j → f' j = f j) : jK g f' := fun j hj => by
  rw [hf (215 + j) (by omega)]
  exact h j hj
theorem upd_ne {f : Nat → Int32} {k j : Nat} {v : Int32} (h : j ≠ k) : upd f k v j = f j := by
  unfold upd
  rw [if_neg h]
theorem upd_self {f : Nat → Int32} {k : Nat} {v : Int32} : upd f k v k = v := by
  unfold upd
  rw [if_pos rfl]
theorem jB.put {off n i : Nat} {g f : Nat → Int32} {v : Int32} (h : jB off n g f) : jB off n (upd g i v) (upd f (off + i) v) := fun j hj => by
  by_cases e : j = i
  · subst e
    rw [upd_self, upd_self]
  · rw [upd_ne e, upd_ne (by omega)]
    exact h j hj
theorem jW.put {off n hi i : Nat} {g f : Nat → Int32} {v : Int32} (h : jW off n hi g f) (hv : jRg v 0 hi) : jW off n hi (upd g i v) (upd f (off + i) v) := fun j hj => by
  by_cases e : j = i
  · subst e
    rw [upd_self, upd_self]
    exact ⟨rfl, hv⟩
  · rw [upd_ne e, upd_ne (by omega)]
    exact h j hj
theorem jK.put {i : Nat} {g f : Nat → Int32} {v : Int32} (h : jK g f) (hv : v = - nI 1 ∨ ∃ n, n < i ∧ v = nI n) : jK (upd g i v) (upd f (215 + i) v) := fun j hj => by
  by_cases e : j = i
  · subst e
    rw [upd_self, upd_self]
    exact ⟨rfl, hv⟩
  · rw [upd_ne e, upd_ne (by omega)]
    exact h j hj
def jMain (S : ZSt) : Prop := jSt (zI S) 92 93 94 95 96 97 98 99 100 101 102 103 (zI S 132)
def jRef (S : ZSt) : Prop := ∀ j, j < 4 → zI S 105 j = zI S 131 j
/-- both are asked: k the kind of what was thrown, b what came -/
def zTwo (CM : ZMt) (av : List Value) (P : ZSt → Prop) : ZOut → ZSt → Prop := fun o S1 =>
  ∃ k : Nat, o = .inl (some (.int (nI k))) ∧ zC CM (.ref 130 :: av) S1 (fun o2 S2 => ∃ b : Int32, o2 = .inl (some (.int b)) ∧ zI S2 130 0 = nI k ∧ (k = 0 → zL S2 161 0 = b.toInt64) ∧ P S2)
/-- ints alone have changed, in the cells of l, of the reference's own cell the first alone; and the answer's cell; n: how much was thrown -/
def zOnly (l : List Nat) (n : Nat) (S S' : ZSt) : Prop := (∀ c, zmem c l = false → zI S' c = zI S c) ∧ (∀ j, j ≠ 0 → zI S' 130 j = zI S 130 j) ∧ (∀ c, c ≠ 161 → zL S' c = zL S c) ∧ zR S' = zR S ∧ zn S' = zn S ∧ zc S' = zc S ∧ zx S' = zx S ∧ (zu S ≤ zu S' ∧ zu S' ≤ zu S + n) ∧ zz S ≤ zz S' ∧ zz S' ≤ zz S + 50 * n
theorem zOnly.sh {l : List Nat} {n : Nat} {S S' : ZSt} (h : zOnly l n S S') (hS : zSh S) : zSh S' := by
  obtain ⟨-, -, -, h3, h4, h5, h6, -⟩ := h
  unfold zSh
  rw [h3, h4, h5, h6]
  exact hS
theorem zOnly.rf (l : List Nat) (S : ZSt) : zOnly l 0 S S := ⟨fun _ _ => rfl, fun _ _ => rfl, fun _ _ => rfl, rfl, rfl, rfl, rfl, ⟨Nat.le_refl _, Nat.le_refl _⟩, Nat.le_refl _, Nat.le_refl _⟩
theorem zOnly.I {l : List Nat} {n : Nat} {S S1 : ZSt} (h : zOnly l n S S1) {a k : Nat} {v : Int32} (ha : (zmem a l && !Nat.beq a 130) = true) : zOnly l n S (zsI S1 a k v) := by
  obtain ⟨h1, h0, h2, h3, h4, h5, h6, h7, h8⟩ := h
  obtain ⟨a1, a2⟩ := zand ha
  have hne : (130 : Nat) ≠ a := fun e => by
    subst e
    cases a2
  refine ⟨fun c hc => ?_, fun j hj => ?_, h2, h3, h4, h5, h6, h7, h8⟩
  · rw [zI_ne _ _ (fun e => by rw [e, a1] at hc; cases hc)]
    exact h1 c hc
  · rw [zI_ne _ _ hne]
    exact h0 j hj
theorem zOnly.O {l : List Nat} {n : Nat} {S S1 : ZSt} (h : zOnly l n S S1) {v : Int32} (ha : zmem 130 l = true) : zOnly l n S (zsI S1 130 0 v) := by
  obtain ⟨h1, h0, h2, h3, h4, h5, h6, h7, h8⟩ := h
  refine ⟨fun c hc => ?_, fun j hj => ?_, h2, h3, h4, h5, h6, h7, h8⟩
  · rw [zI_ne _ _ (fun e => by rw [e, ha] at hc; cases hc)]
    exact h1 c hc
  · rw [zI_eq, zupd, if_neg hj]
    exact h0 j hj
theorem zOnly.L {l : List Nat} {n : Nat} {S S1 : ZSt} (h : zOnly l n S S1) {k : Nat} {v : Int64} : zOnly l n S (zsL S1 161 k v) := by
  obtain ⟨h1, h0, h2, h3, h4, h5, h6, h7, h8⟩ := h
  refine ⟨h1, h0, fun c hc => ?_, h3, h4, h5, h6, h7, h8⟩
  rw [show zL (zsL S1 161 k v) c = zL S1 c from zup_ne hc]
  exact h2 c hc
theorem zOnly.T {l : List Nat} {n : Nat} {S S1 : ZSt} (h : zOnly l n S S1) : zOnly l (n + 1) S (zThr S1) := by
  obtain ⟨h1, h0, h2, h3, h4, h5, h6, ⟨h7, h8⟩, h9, h10⟩ := h
  have e1 : zu (zThr S1) = zu S1 + 1 := rfl
  have e2 : zz (zThr S1) = zz S1 + 6 := rfl
  exact ⟨h1, h0, h2, h3, h4, h5, h6, ⟨by omega, by omega⟩, by omega, by omega⟩
theorem zOnly.mono {l : List Nat} {n m : Nat} {S S1 : ZSt} (h : zOnly l n S S1) (hn : n ≤ m) : zOnly l m S S1 := by
  obtain ⟨h1, h0, h2, h3, h4, h5, h6, ⟨h7, h8⟩, h9, h10⟩ := h
  exact ⟨h1, h0, h2, h3, h4, h5, h6, ⟨h7, by omega⟩, h9, by omega⟩
/-- what both answer: the kind of what was thrown; if nothing was, the same value; what stays -/
def zAns (l : List Nat) (S : ZSt) (P : ZSt → Prop) : Int32 → Value → ZSt → Prop := fun kk b S2 => ∃ b' : Int32, b = .int b' ∧ zI S2 130 0 = kk ∧ (kk = nI 0 → zL S2 161 0 = b'.toInt64) ∧ zOnly l 1 S S2 ∧ P S2
theorem jRef_up {f g : Nat → Int32} {k : Nat} (h : ∀ j, j < 4 → f j = g j) (hk : k < 4) : ∀ j, j < 4 → upd f k (f k + nI 1) j = upd g k (g k + nI 1) j := fun j hj => by
  rw [zupd, zupd, h j hj, h k hk]
/-- both refused: the counts stay alike -/
theorem zBad {l : List Nat} {S : ZSt} {P : ZSt → Prop} {kk b : Int32} {r : Nat} (hl : (zmem 105 l && (zmem 130 l && zmem 131 l)) = true) (hk : kk ≠ nI 0) (hP : P (zsI (zsI (zsI (zThr (zsI S 105 r (zI S 105 r + nI 1))) 130 0 (nI 0)) 130 0 kk) 131 r (zI S 131 r + nI 1))) :
    zAns l S P kk (.int b) (zsI (zsI (zsI (zThr (zsI S 105 r (zI S 105 r + nI 1))) 130 0 (nI 0)) 130 0 kk) 131 r (zI S 131 r + nI 1)) := by
  obtain ⟨h1, h2⟩ := zand hl
  obtain ⟨h3, h4⟩ := zand h2
  exact ⟨_, rfl, rfl, fun e => absurd e hk, ((((zOnly.rf l S).I (by rw [h1]; rfl)).T.O h3).O h3).I (by rw [h4]; rfl), hP⟩
def jCore (S : ZSt) : Prop := jMain S ∧ jRef S
theorem jCore_bad {S : ZSt} (h : jCore S) {r : Nat} (hr : r < 4) {kk : Int32} : jCore (zsI (zsI (zsI (zThr (zsI S 105 r (zI S 105 r + nI 1))) 130 0 (nI 0)) 130 0 kk) 131 r (zI S 131 r + nI 1)) := ⟨h.1, fun j hj => jRef_up h.2 hr j hj⟩
theorem jCore_bad2 {S : ZSt} (h : jCore S) {kk : Int32} : jCore (zsI (zsI (zsI (zThr (zsI S 105 2 (zI S 105 2 + nI 1))) 130 0 (nI 0)) 130 0 kk) 131 2 (zI S 131 2 + nI 1)) := jCore_bad h (by omega)
/-- an answer that is no or yes -/
def zAnsB (l : List Nat) (S : ZSt) (P : ZSt → Prop) : Int32 → Value → ZSt → Prop := fun kk b S2 => ∃ _ : Unit, zAns l S P kk b S2 ∧ (b = .int (nI 0) ∨ b = .int (nI 1))
