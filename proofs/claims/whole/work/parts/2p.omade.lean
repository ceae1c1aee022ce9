/-! A new task out of what was said: TR_made -/
theorem pat_of {fa fb : Nat → Int32} : ∀ (l : List (Nat × Nat)) (i : Nat), (∀ k, k < l.length → fa (i + k) = nI (l.getD k (0, 0)).1 ∧ fb (i + k) = nI (l.getD k (0, 0)).2) → pat fa fb i l
  | [], _, _ => trivial
  | (c, v) :: r, i, h => ⟨(h 0 (Nat.succ_pos _)).1, (h 0 (Nat.succ_pos _)).2, pat_of r (i + 1) (fun k hk => by
    have := h (k + 1) (Nat.succ_lt_succ hk)
    rw [show i + 1 + k = i + (k + 1) by omega]
    exact this)⟩
/-- the cells of a new task o: its rows, its stack -/
def jNt (S S' : ZSt) (l : List (Nat × Nat)) : Prop := (zGr S S' ∧ zx S' = zx S + 4) ∧ jTO S' (zx S) (zx S + 1) (zx S + 2) (zx S + 3) l ∧ ((∀ k q, zR S' (zx S) k = some q → k < 3 ∧ q = zx S + 1 + k) ∧ ∀ j, j < 3 → ∀ k, zR S' (zx S + 1 + j) k = none) ∧ (zu S' = zu S + 4 ∧ zz S' = zz S + (35 + 2 * l.length))
theorem jNt_of {S : ZSt} {l : List (Nat × Nat)} {f g : Nat → Int32} (hx : 162 ≤ zx S) (hp : pat f g 0 l) : jNt S (zsR (zsR (zsR (zNew (zNew (zNew (zNew S 5 0 3 (fun _ => 0)) 100 l.length l.length f) 100 l.length l.length g) 100 32 32 (fun _ => 0)) (zx S) 2 (some (zx S + 3))) (zx S) 0 (some (zx S + 1))) (zx S) 1 (some (zx S + 2))) l := by
  have g1 : zGr S (zNew S 5 0 3 (fun _ => 0)) := zGr.rf.new hx
  have g4 := ((g1.new (t := 100) (n := l.length) (sl := l.length) (f := f) hx).new (t := 100) (n := l.length) (sl := l.length) (f := g) hx).new (t := 100) (n := 32) (sl := 32) (f := fun _ => 0) hx
  have x4 : zx (zNew (zNew (zNew (zNew S 5 0 3 (fun _ => 0)) 100 l.length l.length f) 100 l.length l.length g) 100 32 32 (fun _ => 0)) = zx S + 4 := rfl
  have R4 : ∀ j, j < 4 → zR (zNew (zNew (zNew (zNew S 5 0 3 (fun _ => 0)) 100 l.length l.length f) 100 l.length l.length g) 100 32 32 (fun _ => 0)) (zx S + j) = fun _ => none := fun j hj => by
    show va_up (va_up (va_up (va_up (zR S) (zx S) (fun _ => none)) (zx S + 1) (fun _ => none)) (zx S + 2) (fun _ => none)) (zx S + 3) (fun _ => none) (zx S + j) = _
    by_cases e3 : j = 3
    · rw [e3, va_up_self]
    · rw [zup_ne (by omega)]
      by_cases e2 : j = 2
      · rw [e2, va_up_self]
      · rw [zup_ne (by omega)]
        by_cases e1 : j = 1
        · rw [e1, va_up_self]
        · have e0 : j = 0 := by omega
          rw [zup_ne (by omega), e0, Nat.add_zero, va_up_self]
  have C4 : ∀ j, j < 4 → va_up (va_up (va_up (va_up (zc S) (zx S) 5) (zx S + 1) 100) (zx S + 2) 100) (zx S + 3) 100 (zx S + j) = if j = 0 then 5 else 100 := fun j hj => by
    by_cases e3 : j = 3
    · rw [e3, va_up_self]
      rfl
    · rw [zup_ne (by omega)]
      by_cases e2 : j = 2
      · rw [e2, va_up_self]
        rfl
      · rw [zup_ne (by omega)]
        by_cases e1 : j = 1
        · rw [e1, va_up_self]
          rfl
        · have e0 : j = 0 := by omega
          rw [zup_ne (by omega), e0, Nat.add_zero, va_up_self]
          rfl
  have N4 : ∀ j, 0 < j → j < 4 → va_up (va_up (va_up (va_up (zn S) (zx S) 0) (zx S + 1) l.length) (zx S + 2) l.length) (zx S + 3) 32 (zx S + j) = if j = 3 then 32 else l.length := fun j h0 hj => by
    by_cases e3 : j = 3
    · rw [e3, va_up_self]
      rfl
    · rw [zup_ne (by omega), if_neg e3]
      by_cases e2 : j = 2
      · rw [e2, va_up_self]
      · have e1 : j = 1 := by omega
        rw [zup_ne (by omega), e1, va_up_self]
  have RR : ∀ k, zR (zsR (zsR (zsR (zNew (zNew (zNew (zNew S 5 0 3 (fun _ => 0)) 100 l.length l.length f) 100 l.length l.length g) 100 32 32 (fun _ => 0)) (zx S) 2 (some (zx S + 3))) (zx S) 0 (some (zx S + 1))) (zx S) 1 (some (zx S + 2))) (zx S) k = if k = 1 then some (zx S + 2) else if k = 0 then some (zx S + 1) else if k = 2 then some (zx S + 3) else none := fun k => by
    have r4 := R4 0 (by omega)
    rw [Nat.add_zero] at r4
    show va_up _ (zx S) (va_up (va_up _ (zx S) (va_up (va_up _ (zx S) (va_up (zR (zNew (zNew (zNew (zNew S 5 0 3 (fun _ => 0)) 100 l.length l.length f) 100 l.length l.length g) 100 32 32 (fun _ => 0)) (zx S)) 2 (some (zx S + 3))) (zx S)) 0 (some (zx S + 1))) (zx S)) 1 (some (zx S + 2))) (zx S) k = _
    rw [va_up_self, va_up_self, va_up_self, r4]
    by_cases e1 : k = 1
    · rw [if_pos e1, e1, va_up_self]
    · rw [if_neg e1, zup_ne e1]
      by_cases e0 : k = 0
      · rw [if_pos e0, e0, va_up_self]
      · rw [if_neg e0, zup_ne e0]
        by_cases e2 : k = 2
        · rw [if_pos e2, e2, va_up_self]
        · rw [if_neg e2, zup_ne e2]
  refine ⟨⟨((g4.R (Nat.le_refl _) (by rw [x4]; omega)).R (Nat.le_refl _) (by show zx S < zx S + 4; omega)).R (Nat.le_refl _) (by show zx S < zx S + 4; omega), rfl⟩, ⟨C4 0 (by omega), ⟨RR 0, RR 1, RR 2⟩, ⟨⟨C4 1 (by omega), N4 1 (by omega) (by omega)⟩, ⟨C4 2 (by omega), N4 2 (by omega) (by omega)⟩, ⟨C4 3 (by omega), N4 3 (by omega) (by omega)⟩⟩, ?_⟩, ⟨fun k q hq => ?_, fun j hj k => ?_⟩, by show zu S + 1 + 1 + 1 + 1 = zu S + 4; omega, by show zz S + 3 + l.length + l.length + 32 = zz S + (35 + 2 * l.length); omega⟩
  · have ef : va_up (va_up (va_up (va_up (zI S) (zx S) (fun _ => 0)) (zx S + 1) f) (zx S + 2) g) (zx S + 3) (fun _ => 0) (zx S + 1) = f := by
      rw [zup_ne (by omega), zup_ne (by omega), va_up_self]
    have eg : va_up (va_up (va_up (va_up (zI S) (zx S) (fun _ => 0)) (zx S + 1) f) (zx S + 2) g) (zx S + 3) (fun _ => 0) (zx S + 2) = g := by
      rw [zup_ne (by omega), va_up_self]
    show pat (va_up (va_up (va_up (va_up (zI S) (zx S) (fun _ => 0)) (zx S + 1) f) (zx S + 2) g) (zx S + 3) (fun _ => 0) (zx S + 1)) (va_up (va_up (va_up (va_up (zI S) (zx S) (fun _ => 0)) (zx S + 1) f) (zx S + 2) g) (zx S + 3) (fun _ => 0) (zx S + 2)) 0 l
    rw [ef, eg]
    exact hp
  · rw [RR k] at hq
    split at hq
    · cases hq
      omega
    · split at hq
      · cases hq
        omega
      · split at hq
        · cases hq
          omega
        · cases hq
  · have r4 := R4 (j + 1) (by omega)
    show va_up (va_up (va_up (zR (zNew (zNew (zNew (zNew S 5 0 3 (fun _ => 0)) 100 l.length l.length f) 100 l.length l.length g) 100 32 32 (fun _ => 0))) (zx S) _) (zx S) _) (zx S) _ (zx S + 1 + j) k = none
    rw [zup_ne (by omega), zup_ne (by omega), zup_ne (by omega), show zx S + 1 + j = zx S + (j + 1) by omega, r4]
theorem w_TR_made {l : List (Nat × Nat)} {S : ZSt} {Q : ZOut → ZSt → Prop} (hS : zSh S) (ho : jOu S l) (hl : l.length ≤ 400) (hQ : ∀ S', jNt S S' l → Q (.inl (some (.ref (zx S)))) S') : zC m_TR_made [.ref 86] S Q := by
  have hx : 162 ≤ zx S := hS.2.2.2
  have l32 : (nI 32).toNatClampNeg = 32 := by decide
  obtain ⟨h2, hr⟩ := ho
  refine b_TR_made hS ?_
  rw [h2, if_neg (fun h9 => absurd ((nI_ltI (by omega) (by omega)).mp h9) (by omega)), mx0 (by omega)]
  have g1 : zGr S (zNew S 5 0 3 (fun _ => 0)) := zGr.rf.new hx
  refine w_JA_copyOf (g1.sh hS) ⟨(g1.sh hS).1 87 (by omega), (g1.sh hS).2.1 87 (by omega) (by omega)⟩ (by show 87 < zx S + 1; omega) hl (fun f hf => ?_)
  have g2 : zGr S (zNew (zNew S 5 0 3 (fun _ => 0)) 100 l.length l.length f) := g1.new hx
  refine b_TR_made_13 (g2.sh hS) (w_JA_copyOf (g2.sh hS) ⟨(g2.sh hS).1 88 (by omega), (g2.sh hS).2.1 88 (by omega) (by omega)⟩ (by show 88 < zx S + 1 + 1; omega) hl (fun g hg => ?_))
  have g3 : zGr S (zNew (zNew (zNew S 5 0 3 (fun _ => 0)) 100 l.length l.length f) 100 l.length l.length g) := g2.new hx
  have g4 : zGr S (zNew (zNew (zNew (zNew S 5 0 3 (fun _ => 0)) 100 l.length l.length f) 100 l.length l.length g) 100 32 32 (fun _ => 0)) := g3.new hx
  have c3 : zc (zNew (zNew (zNew S 5 0 3 (fun _ => 0)) 100 l.length l.length f) 100 l.length l.length g) (zx S) = 5 := by
    show va_up (va_up (va_up (zc S) (zx S) 5) (zx S + 1) 100) (zx S + 2) 100 (zx S) = 5
    rw [zup_ne (by omega), zup_ne (by omega), va_up_self]
  have c4 : zc (zNew (zNew (zNew (zNew S 5 0 3 (fun _ => 0)) 100 l.length l.length f) 100 l.length l.length g) 100 32 32 (fun _ => 0)) (zx S) = 5 := (zup_ne (by show zx S ≠ zx S + 1 + 1 + 1; omega)).trans c3
  have g5 := g4.R (o := zx S) (k := 2) (v := some (zx S + 3)) (Nat.le_refl _) (by show zx S < zx S + 4; omega)
  have g6 := g5.R (o := zx S) (k := 0) (v := some (zx S + 1)) (Nat.le_refl _) (by show zx S < zx S + 4; omega)
  have g7 := g6.R (o := zx S) (k := 1) (v := some (zx S + 2)) (Nat.le_refl _) (by show zx S < zx S + 4; omega)
  refine b_TR_made_17 (g3.sh hS) ⟨c3, b_Tk_init (g3.sh hS) ⟨by decide, by decide, zTr_big (by omega), ?_, ?_⟩⟩
  · rw [l32]
    exact c4
  · rw [l32]
    refine b_Tk_init_6 (g5.sh hS) ⟨zTr_big (by omega), c4, b_Tk_init_9 (g6.sh hS) ⟨zTr_big (by omega), c4, b_Tk_init_12 (g7.sh hS) (b_TR_made_18 (g7.sh hS) (hQ _ (jNt_of hx (pat_of l 0 (fun k hk => ?_)))))⟩⟩
    obtain ⟨r1, r2⟩ := hr k hk
    rw [Nat.zero_add, hf k hk, hg k hk, ← r1, ← r2]
    have e1 : zI (zNew S 5 0 3 (fun _ => 0)) 87 = zI S 87 := zup_ne (by omega)
    have e2 : zI (zNew (zNew S 5 0 3 (fun _ => 0)) 100 l.length l.length f) 88 = zI S 88 := (zup_ne (by show 88 ≠ zx S + 1; omega)).trans (zup_ne (by omega))
    rw [e1, e2]
    exact ⟨rfl, rfl⟩
