/-! A new task, stretch by stretch -/
set_option maxRecDepth 4000 in
theorem b_Tk_init {o : Nat} {o1 : Nat} {o2 : Nat} {S : ZSt} {Q : ZOut → ZSt → Prop} (hS : zSh S) (h : (¬ (nI 32) < 0 ∧ (nI 32).toNatClampNeg ≤ 60000000 ∧ (zTr o 2 = none ∧ zc (zNew S 100 ((nI 32).toNatClampNeg) ((nI 32).toNatClampNeg) (fun _ => 0)) o = 5 ∧ zW 1 m_Tk_init 6 [some (.ref o), some (.ref o1), some (.ref o2)] [] (zsR (zNew S 100 ((nI 32).toNatClampNeg) ((nI 32).toNatClampNeg) (fun _ => 0)) o 2 (some (zx S))) Q))) : zC m_Tk_init [.ref o, .ref o1, .ref o2] S Q := zF_W 11 (cs := [6, 9, 12]) (dy := [5, 8, 11]) hS h
set_option maxRecDepth 4000 in
theorem b_Tk_init_6 {o : Nat} {o1 : Nat} {o2 : Nat} {S : ZSt} {Q : ZOut → ZSt → Prop} (hS : zSh S) (h : (zTr o 0 = none ∧ zc S o = 5 ∧ zW 1 m_Tk_init 9 [some (.ref o), some (.ref o1), some (.ref o2)] [] (zsR S o 0 (some o1)) Q)) : zW 1 m_Tk_init 6 [some (.ref o), some (.ref o1), some (.ref o2)] [] S Q := zF_W 8 (cs := [6, 9, 12]) (dy := [5, 8, 11]) hS h
set_option maxRecDepth 4000 in
theorem b_Tk_init_9 {o : Nat} {o1 : Nat} {o2 : Nat} {S : ZSt} {Q : ZOut → ZSt → Prop} (hS : zSh S) (h : (zTr o 1 = none ∧ zc S o = 5 ∧ zW 1 m_Tk_init 12 [some (.ref o), some (.ref o1), some (.ref o2)] [] (zsR S o 1 (some o2)) Q)) : zW 1 m_Tk_init 9 [some (.ref o), some (.ref o1), some (.ref o2)] [] S Q := zF_W 8 (cs := [6, 9, 12]) (dy := [5, 8, 11]) hS h
set_option maxRecDepth 4000 in
theorem b_Tk_init_12 {o : Nat} {o1 : Nat} {o2 : Nat} {S : ZSt} {Q : ZOut → ZSt → Prop} (hS : zSh S) (h : Q (.inl none) S) : zW 1 m_Tk_init 12 [some (.ref o), some (.ref o1), some (.ref o2)] [] S Q := zF_W 6 (cs := [6, 9, 12]) (dy := [5, 8, 11]) hS h
/-! A new task out of what was said -/
theorem zwI_new {S : ZSt} {t n sl : Nat} {f g : Nat → Int32} : zwI (zNew S t n sl f) (zx S) g = zNew S t n sl g := by
  have e : va_up (va_up (zI S) (zx S) f) (zx S) g = va_up (zI S) (zx S) g := funext (fun k => by
    by_cases h : k = zx S
    · rw [h, va_up_self, va_up_self]
    · rw [zup_ne h, zup_ne h, zup_ne h])
  show (va_up (va_up (zI S) (zx S) f) (zx S) g, (zNew S t n sl f).2) = (va_up (zI S) (zx S) g, (zNew S t n sl g).2)
  rw [e]
  rfl
theorem w_JA_copyOf {o n : Nat} {S : ZSt} {Q : ZOut → ZSt → Prop} (hS : zSh S) (ha : zArr S o 400) (ho : o < zx S) (hn : n ≤ 400) (hQ : ∀ g : Nat → Int32, (∀ k, k < n → g k = zI S o k) → Q (.inl (some (.ref (zx S)))) (zNew S 100 n n g)) : zC m_JA_copyOf [.ref o, .int (nI n)] S Q := by
  have l : (nI n).toNatClampNeg = n := zcl9 (by omega)
  have l0 : (nI 0).toNatClampNeg = 0 := by decide
  have nn : ¬ nI n < 0 := fun h9 => by
    rw [← nI_0] at h9
    exact absurd ((nI_ltI (by omega) (by omega)).mp h9) (by omega)
  refine b_JA_copyOf hS ⟨ha.1, ?_⟩
  have ec : ∀ g : Nat → Int32, zc (zNew S 100 n n g) o = 100 := fun g => (zup_ne (by omega)).trans ha.1
  have en : ∀ g : Nat → Int32, zn (zNew S 100 n n g) o = 400 := fun g => (zup_ne (by omega)).trans ha.2
  have es : ∀ g : Nat → Int32, zn (zNew S 100 n n g) (zx S) = n := fun g => va_up_self _ _ _
  have ei : zI (zNew S 100 n n (fun _ => 0)) o = zI S o := zup_ne (by omega)
  have ew : zI (zNew S 100 n n (fun _ => 0)) (zx S) = (fun _ => 0) := va_up_self _ _ _
  rw [ha.2, l, en, ei]
  refine ⟨fun h9 => ⟨nn, by omega, ec _, ec _, va_up_self _ _ _, by decide, by decide, ?_⟩, fun h9 => ⟨ha.1, va_up_self _ _ _, ?_⟩⟩
  · have lt : nI n < nI 400 := nI_lt (by
      have : n ≠ 400 := fun y => h9 (by rw [y])
      omega) (by omega)
    rw [if_pos lt, l, l0, es, zwI_new]
    refine ⟨nn, by omega, by omega, hQ _ (fun k hk => ?_)⟩
    show (if 0 ≤ k ∧ k < 0 + n then zI S o (0 + (k - 0)) else _) = zI S o k
    rw [if_pos ⟨Nat.zero_le _, by omega⟩, Nat.zero_add, Nat.sub_zero]
  · have e : n = 400 := nEq (by omega) (by omega) (Classical.not_not.mp h9)
    subst e
    exact hQ _ (fun _ _ => rfl)
