/-! A state is copied -/
def zCs (S S1 : ZSt) (o o3 : Nat) (rs ss : Nat → Nat) (n : Nat) : Prop := S1.2 = S.2 ∧ (∀ c, c ≠ o → (∀ k, k < n → k ≠ 3 → c ≠ rs k) → zI S1 c = zI S c) ∧ (∀ j, j ≠ 3 → zI S1 o j = zI S o j) ∧ (zI S1 o 3 = if 3 < n then zI S o3 3 else zI S o 3) ∧ ∀ k, k < n → k ≠ 3 → ∀ j, j < imL k → zI S1 (rs k) j = zI S (ss k) j
/-- rows all apart -/
def zDi (o o3 : Nat) (rs ss : Nat → Nat) : Prop := o ≠ o3 ∧ (∀ k k', k < 12 → k' < 12 → k ≠ 3 → k' ≠ 3 → rs k = rs k' → k = k') ∧ ∀ k, k < 12 → k ≠ 3 → rs k ≠ o ∧ rs k ≠ o3 ∧ ss k ≠ o ∧ ∀ k', k' < 12 → k' ≠ 3 → rs k ≠ ss k'
theorem zCs.rf {S : ZSt} {o o3 : Nat} {rs ss : Nat → Nat} : zCs S S o o3 rs ss 0 := ⟨rfl, fun _ _ _ => rfl, fun _ _ => rfl, rfl, fun k h => by omega⟩
theorem zCs.sh {S S1 : ZSt} {o o3 n : Nat} {rs ss : Nat → Nat} (h : zCs S S1 o o3 rs ss n) (hS : zSh S) : zSh S1 := zSh_of h.1 hS
theorem zCs.c {S S1 : ZSt} {o o3 n : Nat} {rs ss : Nat → Nat} (h : zCs S S1 o o3 rs ss n) : zc S1 = zc S := by show S1.2.2.2.2.1 = S.2.2.2.2.1; rw [h.1]
theorem zCs.n {S S1 : ZSt} {o o3 n : Nat} {rs ss : Nat → Nat} (h : zCs S S1 o o3 rs ss n) : zn S1 = zn S := by show S1.2.2.2.1 = S.2.2.2.1; rw [h.1]
theorem zCs.r {S S1 : ZSt} {o o3 n : Nat} {rs ss : Nat → Nat} (h : zCs S S1 o o3 rs ss n) : zR S1 = zR S := by show S1.2.2.1 = S.2.2.1; rw [h.1]
theorem zCs.row {S S1 : ZSt} {o o3 n a b l : Nat} {rs ss : Nat → Nat} (h : zCs S S1 o o3 rs ss n) (d : zDi o o3 rs ss) (hn : n < 12) (h3 : n ≠ 3) (ha : a = 0) (hb : b = 0) (hl : l = imL n) : zCs S (zwI S1 (rs n) (va_cpy (zI S1 (ss n)) (zI S1 (rs n)) a b l)) o o3 rs ss (n + 1) := by
  subst ha hb hl
  obtain ⟨h1, h2, h4, h5, h6⟩ := h
  obtain ⟨d1, d2, d3⟩ := d
  obtain ⟨e1, e2, e3, e4⟩ := d3 n hn h3
  have es : zI S1 (ss n) = zI S (ss n) := h2 _ e3 (fun k hk hk3 => fun e => (d3 k (by omega) hk3).2.2.2 n hn h3 e.symm)
  have ne : ∀ c, c ≠ rs n → zI (zwI S1 (rs n) (va_cpy (zI S1 (ss n)) (zI S1 (rs n)) 0 0 (imL n))) c = zI S1 c := fun c hc => zup_ne hc
  have eq : zI (zwI S1 (rs n) (va_cpy (zI S1 (ss n)) (zI S1 (rs n)) 0 0 (imL n))) (rs n) = va_cpy (zI S1 (ss n)) (zI S1 (rs n)) 0 0 (imL n) := va_up_self _ _ _
  refine ⟨h1, fun c hc hk => ?_, fun j hj => ?_, ?_, fun k hk hk3 j hj => ?_⟩
  · rw [ne c (hk n (by omega) h3)]
    exact h2 c hc (fun k a b => hk k (by omega) b)
  · rw [ne o (fun e => e1 e.symm)]
    exact h4 j hj
  · rw [ne o (fun e => e1 e.symm), h5]
    by_cases c : 3 < n
    · rw [if_pos c, if_pos (by omega)]
    · rw [if_neg c, if_neg (by omega)]
  · by_cases e : k = n
    · subst e
      rw [eq, es]
      unfold va_cpy
      rw [if_pos ⟨Nat.zero_le _, by omega⟩, Nat.zero_add, Nat.sub_zero]
    · rw [ne _ (fun c => e (d2 k n (by omega) hn hk3 h3 c))]
      exact h6 k (by omega) hk3 j hj
theorem zCs.flag {S S1 : ZSt} {o o3 : Nat} {rs ss : Nat → Nat} (h : zCs S S1 o o3 rs ss 3) (d : zDi o o3 rs ss) : zCs S (zsI S1 o 3 (zI S1 o3 3)) o o3 rs ss 4 := by
  obtain ⟨h1, h2, h4, h5, h6⟩ := h
  obtain ⟨d1, d2, d3⟩ := d
  refine ⟨h1, fun c hc hk => ?_, fun j hj => ?_, ?_, fun k hk hk3 j hj => ?_⟩
  · rw [zI_ne _ _ hc]
    exact h2 c hc (fun k a b => hk k (by omega) b)
  · rw [zI_o hj]
    exact h4 j hj
  · rw [zI_s, if_pos (by omega), h2 o3 (fun e => d1 e.symm) (fun k hk hk3 e => (d3 k (by omega) hk3).2.1 e.symm)]
  · rw [zI_ne _ _ (d3 k (by omega) hk3).1]
    exact h6 k (by omega) hk3 j hj
theorem zlen {S : ZSt} {r n : Nat} (h : zn S r = n) (hn : n ≤ 60) : ¬ nI (zn S r) < 0 ∧ (nI 0).toNatClampNeg + (nI (zn S r)).toNatClampNeg = n := by
  rw [h]
  exact ⟨nI_pos (by omega), by rw [zcl9 (by omega), zcl9 (by omega), Nat.zero_add]⟩
theorem zclen {S : ZSt} {r n : Nat} (h : zn S r = n) (hn : n ≤ 60) : (nI (zn S r)).toNatClampNeg = n := by
  rw [h]
  exact zcl9 (by omega)
theorem w_St_copyFrom {o o3 : Nat} {rs ss : Nat → Nat} {S : ZSt} {Q : ZOut → ZSt → Prop} (hS : zSh S) (c1 : zc S o = 3) (c2 : zc S o3 = 3) (hr : ∀ k, k < 12 → k ≠ 3 → zR S o k = some (rs k) ∧ zArr S (rs k) (imL k)) (hs : ∀ k, k < 12 → k ≠ 3 → zR S o3 k = some (ss k) ∧ zArr S (ss k) (imL k)) (d : zDi o o3 rs ss) (hb : zI S o3 3 = 0 ∨ zI S o3 3 = 1) (hQ : ∀ S', zCs S S' o o3 rs ss 12 → Q (.inl none) S') : zC m_St_copyFrom [.ref o, .ref o3] S Q := by
  have r0 := hr 0 (by omega) (by omega)
  have s0 := hs 0 (by omega) (by omega)
  have r1 := hr 1 (by omega) (by omega)
  have s1 := hs 1 (by omega) (by omega)
  have r2 := hr 2 (by omega) (by omega)
  have s2 := hs 2 (by omega) (by omega)
  have r4 := hr 4 (by omega) (by omega)
  have s4 := hs 4 (by omega) (by omega)
  have r5 := hr 5 (by omega) (by omega)
  have s5 := hs 5 (by omega) (by omega)
  have r6 := hr 6 (by omega) (by omega)
  have s6 := hs 6 (by omega) (by omega)
  have r7 := hr 7 (by omega) (by omega)
  have s7 := hs 7 (by omega) (by omega)
  have r8 := hr 8 (by omega) (by omega)
  have s8 := hs 8 (by omega) (by omega)
  have r9 := hr 9 (by omega) (by omega)
  have s9 := hs 9 (by omega) (by omega)
  have r10 := hr 10 (by omega) (by omega)
  have s10 := hs 10 (by omega) (by omega)
  have r11 := hr 11 (by omega) (by omega)
  have s11 := hs 11 (by omega) (by omega)
  have ns0 : zn S (ss 0) = 6 := s0.2.2
  have nr0 : zn S (rs 0) = 6 := r0.2.2
  refine b_St_copyFrom hS ⟨c2, ss 0, s0.1, c1, rs 0, r0.1, s0.2.1, r0.2.1, by decide, by decide, by decide, (by rw [ns0]; decide), (by rw [nr0]; decide), ?_⟩
  have p1 := (zCs.rf (S := S) (o := o) (o3 := o3) (rs := rs) (ss := ss)).row d (n := 0) (by omega) (by omega) (show (nI 0).toNatClampNeg = 0 by decide) (show (nI 0).toNatClampNeg = 0 by decide) (show (nI 6).toNatClampNeg = imL 0 by decide)
  revert p1
  generalize zwI S (rs 0) (va_cpy (zI S (ss 0)) (zI S (rs 0)) (nI 0).toNatClampNeg (nI 0).toNatClampNeg (nI 6).toNatClampNeg) = S1
  intro p1
  have C1 := p1.c
  have N1 := p1.n
  have R1 := p1.r
  have ns1 : zn S1 (ss 1) = 12 := (by rw [N1]; exact s1.2.2)
  have nr1 : zn S1 (rs 1) = 12 := (by rw [N1]; exact r1.2.2)
  refine b_St_copyFrom_8 (p1.sh hS) ⟨(by rw [C1]; exact c2), ss 1, (by rw [R1]; exact s1.1), (by rw [C1]; exact c1), rs 1, (by rw [R1]; exact r1.1), (by rw [C1]; exact s1.2.1), (by rw [C1]; exact r1.2.1), by decide, by decide, by decide, (by rw [ns1]; decide), (by rw [nr1]; decide), ?_⟩
  have p2 := p1.row d (n := 1) (by omega) (by omega) (show (nI 0).toNatClampNeg = 0 by decide) (show (nI 0).toNatClampNeg = 0 by decide) (show (nI 12).toNatClampNeg = imL 1 by decide)
  revert p2
  generalize zwI S1 (rs 1) (va_cpy (zI S1 (ss 1)) (zI S1 (rs 1)) (nI 0).toNatClampNeg (nI 0).toNatClampNeg (nI 12).toNatClampNeg) = S2
  intro p2
  have C2 := p2.c
  have N2 := p2.n
  have R2 := p2.r
  have ns2 : zn S2 (ss 2) = 24 := (by rw [N2]; exact s2.2.2)
  have nr2 : zn S2 (rs 2) = 24 := (by rw [N2]; exact r2.2.2)
  refine b_St_copyFrom_16 (p2.sh hS) ⟨(by rw [C2]; exact c2), ss 2, (by rw [R2]; exact s2.1), (by rw [C2]; exact c1), rs 2, (by rw [R2]; exact r2.1), (by rw [C2]; exact s2.2.1), (by rw [C2]; exact r2.2.1), by decide, by decide, by decide, (by rw [ns2]; decide), (by rw [nr2]; decide), ?_⟩
  have p3 := p2.row d (n := 2) (by omega) (by omega) (show (nI 0).toNatClampNeg = 0 by decide) (show (nI 0).toNatClampNeg = 0 by decide) (show (nI 24).toNatClampNeg = imL 2 by decide)
  revert p3
  generalize zwI S2 (rs 2) (va_cpy (zI S2 (ss 2)) (zI S2 (rs 2)) (nI 0).toNatClampNeg (nI 0).toNatClampNeg (nI 24).toNatClampNeg) = S3
  intro p3
  have C3 := p3.c
  have N3 := p3.n
  have R3 := p3.r
  have pf := p3.flag d
  have Cf := pf.c
  have Nf := pf.n
  have Rf := pf.r
  have hb3 : zI S3 o3 3 = zI S o3 3 := congrFun (p3.2.1 o3 (fun e => d.1 e.symm) (fun k hk hk3 e => (d.2.2 k (by omega) hk3).2.1 e.symm)) 3
  have n29 : zn (zsI S3 o 3 (zI S3 o3 3)) (ss 4) = 4 := by rw [Nf]; exact s4.2.2
  have n32 : zn (zsI S3 o 3 (zI S3 o3 3)) (rs 4) = 4 := by rw [Nf]; exact r4.2.2
  refine b_St_copyFrom_24 (p3.sh hS) ⟨(by rw [C3]; exact c2), (by rw [C3]; exact c1), (by rw [hb3]; exact hb), (by rw [Cf]; exact c2), ss 4, (by rw [Rf]; exact s4.1), (by rw [Cf]; exact c1), rs 4, (by rw [Rf]; exact r4.1), (by rw [Cf]; exact c1), rs 4, (by rw [Rf]; exact r4.1), (by rw [Cf]; exact r4.2.1), (by rw [Cf]; exact s4.2.1), (by rw [Cf]; exact r4.2.1), by decide, by decide, (zlen n32 (by omega)).1, (by rw [(zlen n32 (by omega)).2, n29]; exact Nat.le_refl _), (by rw [(zlen n32 (by omega)).2, n32]; exact Nat.le_refl _), ?_⟩
  have p4 := pf.row d (n := 4) (by omega) (by omega) (show (nI 0).toNatClampNeg = 0 by decide) (show (nI 0).toNatClampNeg = 0 by decide) (zclen n32 (by decide))
  revert p4
  generalize zwI (zsI S3 o 3 (zI S3 o3 3)) (rs 4) (va_cpy (zI (zsI S3 o 3 (zI S3 o3 3)) (ss 4)) (zI (zsI S3 o 3 (zI S3 o3 3)) (rs 4)) (nI 0).toNatClampNeg (nI 0).toNatClampNeg (nI (zn (zsI S3 o 3 (zI S3 o3 3)) (rs 4))).toNatClampNeg) = S4
  intro p4
  have C4 := p4.c
  have N4 := p4.n
  have R4 := p4.r
  have ns5 : zn S4 (ss 5) = 12 := (by rw [N4]; exact s5.2.2)
  have nr5 : zn S4 (rs 5) = 12 := (by rw [N4]; exact r5.2.2)
  refine b_St_copyFrom_38 (p4.sh hS) ⟨(by rw [C4]; exact c2), ss 5, (by rw [R4]; exact s5.1), (by rw [C4]; exact c1), rs 5, (by rw [R4]; exact r5.1), (by rw [C4]; exact s5.2.1), (by rw [C4]; exact r5.2.1), by decide, by decide, by decide, (by rw [ns5]; decide), (by rw [nr5]; decide), ?_⟩
  have p5 := p4.row d (n := 5) (by omega) (by omega) (show (nI 0).toNatClampNeg = 0 by decide) (show (nI 0).toNatClampNeg = 0 by decide) (show (nI 12).toNatClampNeg = imL 5 by decide)
  revert p5
  generalize zwI S4 (rs 5) (va_cpy (zI S4 (ss 5)) (zI S4 (rs 5)) (nI 0).toNatClampNeg (nI 0).toNatClampNeg (nI 12).toNatClampNeg) = S5
  intro p5
  have C5 := p5.c
  have N5 := p5.n
  have R5 := p5.r
  have ns6 : zn S5 (ss 6) = 24 := (by rw [N5]; exact s6.2.2)
  have nr6 : zn S5 (rs 6) = 24 := (by rw [N5]; exact r6.2.2)
  refine b_St_copyFrom_46 (p5.sh hS) ⟨(by rw [C5]; exact c2), ss 6, (by rw [R5]; exact s6.1), (by rw [C5]; exact c1), rs 6, (by rw [R5]; exact r6.1), (by rw [C5]; exact s6.2.1), (by rw [C5]; exact r6.2.1), by decide, by decide, by decide, (by rw [ns6]; decide), (by rw [nr6]; decide), ?_⟩
  have p6 := p5.row d (n := 6) (by omega) (by omega) (show (nI 0).toNatClampNeg = 0 by decide) (show (nI 0).toNatClampNeg = 0 by decide) (show (nI 24).toNatClampNeg = imL 6 by decide)
  revert p6
  generalize zwI S5 (rs 6) (va_cpy (zI S5 (ss 6)) (zI S5 (rs 6)) (nI 0).toNatClampNeg (nI 0).toNatClampNeg (nI 24).toNatClampNeg) = S6
  intro p6
  have C6 := p6.c
  have N6 := p6.n
  have R6 := p6.r
  have ns7 : zn S6 (ss 7) = 24 := (by rw [N6]; exact s7.2.2)
  have nr7 : zn S6 (rs 7) = 24 := (by rw [N6]; exact r7.2.2)
  refine b_St_copyFrom_54 (p6.sh hS) ⟨(by rw [C6]; exact c2), ss 7, (by rw [R6]; exact s7.1), (by rw [C6]; exact c1), rs 7, (by rw [R6]; exact r7.1), (by rw [C6]; exact c1), rs 7, (by rw [R6]; exact r7.1), (by rw [C6]; exact r7.2.1), (by rw [C6]; exact s7.2.1), (by rw [C6]; exact r7.2.1), by decide, by decide, (zlen nr7 (by omega)).1, (by rw [(zlen nr7 (by omega)).2, ns7]; exact Nat.le_refl _), (by rw [(zlen nr7 (by omega)).2, nr7]; exact Nat.le_refl _), ?_⟩
  have p7 := p6.row d (n := 7) (by omega) (by omega) (show (nI 0).toNatClampNeg = 0 by decide) (show (nI 0).toNatClampNeg = 0 by decide) (zclen nr7 (by decide))
  revert p7
  generalize zwI S6 (rs 7) (va_cpy (zI S6 (ss 7)) (zI S6 (rs 7)) (nI 0).toNatClampNeg (nI 0).toNatClampNeg (nI (zn S6 (rs 7))).toNatClampNeg) = S7
  intro p7
  have C7 := p7.c
  have N7 := p7.n
  have R7 := p7.r
  have ns8 : zn S7 (ss 8) = 36 := (by rw [N7]; exact s8.2.2)
  have nr8 : zn S7 (rs 8) = 36 := (by rw [N7]; exact r8.2.2)
  refine b_St_copyFrom_64 (p7.sh hS) ⟨(by rw [C7]; exact c2), ss 8, (by rw [R7]; exact s8.1), (by rw [C7]; exact c1), rs 8, (by rw [R7]; exact r8.1), (by rw [C7]; exact c1), rs 8, (by rw [R7]; exact r8.1), (by rw [C7]; exact r8.2.1), (by rw [C7]; exact s8.2.1), (by rw [C7]; exact r8.2.1), by decide, by decide, (zlen nr8 (by omega)).1, (by rw [(zlen nr8 (by omega)).2, ns8]; exact Nat.le_refl _), (by rw [(zlen nr8 (by omega)).2, nr8]; exact Nat.le_refl _), ?_⟩
  have p8 := p7.row d (n := 8) (by omega) (by omega) (show (nI 0).toNatClampNeg = 0 by decide) (show (nI 0).toNatClampNeg = 0 by decide) (zclen nr8 (by decide))
  revert p8
  generalize zwI S7 (rs 8) (va_cpy (zI S7 (ss 8)) (zI S7 (rs 8)) (nI 0).toNatClampNeg (nI 0).toNatClampNeg (nI (zn S7 (rs 8))).toNatClampNeg) = S8
  intro p8
  have C8 := p8.c
  have N8 := p8.n
  have R8 := p8.r
  have ns9 : zn S8 (ss 9) = 36 := (by rw [N8]; exact s9.2.2)
  have nr9 : zn S8 (rs 9) = 36 := (by rw [N8]; exact r9.2.2)
  refine b_St_copyFrom_74 (p8.sh hS) ⟨(by rw [C8]; exact c2), ss 9, (by rw [R8]; exact s9.1), (by rw [C8]; exact c1), rs 9, (by rw [R8]; exact r9.1), (by rw [C8]; exact c1), rs 9, (by rw [R8]; exact r9.1), (by rw [C8]; exact r9.2.1), (by rw [C8]; exact s9.2.1), (by rw [C8]; exact r9.2.1), by decide, by decide, (zlen nr9 (by omega)).1, (by rw [(zlen nr9 (by omega)).2, ns9]; exact Nat.le_refl _), (by rw [(zlen nr9 (by omega)).2, nr9]; exact Nat.le_refl _), ?_⟩
  have p9 := p8.row d (n := 9) (by omega) (by omega) (show (nI 0).toNatClampNeg = 0 by decide) (show (nI 0).toNatClampNeg = 0 by decide) (zclen nr9 (by decide))
  revert p9
  generalize zwI S8 (rs 9) (va_cpy (zI S8 (ss 9)) (zI S8 (rs 9)) (nI 0).toNatClampNeg (nI 0).toNatClampNeg (nI (zn S8 (rs 9))).toNatClampNeg) = S9
  intro p9
  have C9 := p9.c
  have N9 := p9.n
  have R9 := p9.r
  have ns10 : zn S9 (ss 10) = 36 := (by rw [N9]; exact s10.2.2)
  have nr10 : zn S9 (rs 10) = 36 := (by rw [N9]; exact r10.2.2)
  refine b_St_copyFrom_84 (p9.sh hS) ⟨(by rw [C9]; exact c2), ss 10, (by rw [R9]; exact s10.1), (by rw [C9]; exact c1), rs 10, (by rw [R9]; exact r10.1), (by rw [C9]; exact c1), rs 10, (by rw [R9]; exact r10.1), (by rw [C9]; exact r10.2.1), (by rw [C9]; exact s10.2.1), (by rw [C9]; exact r10.2.1), by decide, by decide, (zlen nr10 (by omega)).1, (by rw [(zlen nr10 (by omega)).2, ns10]; exact Nat.le_refl _), (by rw [(zlen nr10 (by omega)).2, nr10]; exact Nat.le_refl _), ?_⟩
  have p10 := p9.row d (n := 10) (by omega) (by omega) (show (nI 0).toNatClampNeg = 0 by decide) (show (nI 0).toNatClampNeg = 0 by decide) (zclen nr10 (by decide))
  revert p10
  generalize zwI S9 (rs 10) (va_cpy (zI S9 (ss 10)) (zI S9 (rs 10)) (nI 0).toNatClampNeg (nI 0).toNatClampNeg (nI (zn S9 (rs 10))).toNatClampNeg) = S10
  intro p10
  have C10 := p10.c
  have N10 := p10.n
  have R10 := p10.r
  have ns11 : zn S10 (ss 11) = 10 := (by rw [N10]; exact s11.2.2)
  have nr11 : zn S10 (rs 11) = 10 := (by rw [N10]; exact r11.2.2)
  refine b_St_copyFrom_94 (p10.sh hS) ⟨(by rw [C10]; exact c2), ss 11, (by rw [R10]; exact s11.1), (by rw [C10]; exact c1), rs 11, (by rw [R10]; exact r11.1), (by rw [C10]; exact c1), rs 11, (by rw [R10]; exact r11.1), (by rw [C10]; exact r11.2.1), (by rw [C10]; exact s11.2.1), (by rw [C10]; exact r11.2.1), by decide, by decide, (zlen nr11 (by omega)).1, (by rw [(zlen nr11 (by omega)).2, ns11]; exact Nat.le_refl _), (by rw [(zlen nr11 (by omega)).2, nr11]; exact Nat.le_refl _), ?_⟩
  have p11 := p10.row d (n := 11) (by omega) (by omega) (show (nI 0).toNatClampNeg = 0 by decide) (show (nI 0).toNatClampNeg = 0 by decide) (zclen nr11 (by decide))
  revert p11
  generalize zwI S10 (rs 11) (va_cpy (zI S10 (ss 11)) (zI S10 (rs 11)) (nI 0).toNatClampNeg (nI 0).toNatClampNeg (nI (zn S10 (rs 11))).toNatClampNeg) = S11
  intro p11
  exact b_St_copyFrom_104 (p11.sh hS) (hQ S11 p11)
/-! The reference's image and restore -/
def imF (f g : Nat → Int32) (b k : Nat) : Nat → Int32 := fun j => if b ≤ j ∧ j < b + k then f (j - b) else g j
theorem imF_step {f g : Nat → Int32} {b k : Nat} : ∀ j, imF f g b (k + 1) j = if j = b + k then f k else imF f g b k j := fun j => by
  unfold imF
  by_cases h : j = b + k
  · subst h
    rw [if_pos (by omega), if_pos rfl, Nat.add_sub_cancel_left]
  · rw [if_neg h]
    by_cases h2 : b ≤ j ∧ j < b + k
    · rw [if_pos h2, if_pos (by omega)]
    · rw [if_neg h2, if_neg (by omega)]
theorem w_M_im11 {ic : Nat} (hc : ic < 3) : ∀ (f k : Nat) {S S1 : ZSt} {Q : ZOut → ZSt → Prop}, zSh S → zI S 130 4 = nI ic → f + k = 225 → zCp 133 S S1 (imF (zI S 132) (zI S 133) (225 * ic) k) → (∀ S', zCp 133 S S' (imF (zI S 132) (zI S 133) (225 * ic) 225) → Q (.inl (some (.int (nI (ic + 1))))) (zsI S' 130 4 (nI (ic + 1)))) → zW 1 m_M_image 11 [some (.ref 130), some (.int (nI k))] [] S1 Q
  | 0, k, S, S1, Q, hS, h4, hk, hp, h => by
    obtain rfl : k = 225 := by omega
    refine b_M_image_11 (zSh_of hp.1 hS) (pk_le 225 225 (fun _ => ?_) (fun h9 => by omega))
    rw [hp.2.1 130 (by omega), h4, nI_add]
    exact h S1 hp
  | f + 1, k, S, S1, Q, hS, h4, hk, hp, h => by
    refine b_M_image_11 (zSh_of hp.1 hS) (pk_le 225 k (fun h9 => by omega) (fun h9 => ?_))
    rw [hp.2.1 130 (by omega), h4, pk_mul, nI_add, nI_add, zcl9 (by omega), zcl9 (by omega)]
    refine ⟨zin (by omega) (by omega), zin (by omega) (by omega), w_M_im11 hc f (k + 1) hS h4 (by omega) (hp.step fun j => ?_) h⟩
    rw [hp.2.1 132 (by omega), imF_step]
def reF (f g : Nat → Int32) (b k : Nat) : Nat → Int32 := fun j => if j < k then f (b + j) else g j
theorem reF_step {f g : Nat → Int32} {b k : Nat} : ∀ j, reF f g b (k + 1) j = if j = k then f (b + k) else reF f g b k j := fun j => by
  unfold reF
  by_cases h : j = k
  · subst h
    rw [if_pos (by omega), if_pos rfl]
  · rw [if_neg h]
    by_cases h2 : j < k
    · rw [if_pos h2, if_pos (by omega)]
    · rw [if_neg h2, if_neg (by omega)]
theorem w_M_re16 {ic : Nat} (hc : ic < 3) : ∀ (f k : Nat) {S S1 : ZSt} {Q : ZOut → ZSt → Prop}, zSh S → zI S 130 4 = nI ic → f + k = 225 → zCp 132 S S1 (reF (zI S 133) (zI S 132) (225 * ic) k) → (∀ S', zCp 132 S S' (reF (zI S 133) (zI S 132) (225 * ic) 225) → Q (.inl (some (.int (nI ic)))) S') → zW 1 m_M_restore 16 [some (.ref 130), some (.int (nI k))] [] S1 Q
  | 0, k, S, S1, Q, hS, h4, hk, hp, h => by
    obtain rfl : k = 225 := by omega
    refine b_M_restore_16 (zSh_of hp.1 hS) (pk_le 225 225 (fun _ => ?_) (fun h9 => by omega))
    rw [hp.2.1 130 (by omega), h4]
    exact h S1 hp
  | f + 1, k, S, S1, Q, hS, h4, hk, hp, h => by
    refine b_M_restore_16 (zSh_of hp.1 hS) (pk_le 225 k (fun h9 => by omega) (fun h9 => ?_))
    rw [hp.2.1 130 (by omega), h4, pk_mul, nI_add, nI_add, zcl9 (by omega), zcl9 (by omega)]
    refine ⟨zin (by omega) (by omega), zin (by omega) (by omega), w_M_re16 hc f (k + 1) hS h4 (by omega) (hp.step fun j => ?_) h⟩
    rw [hp.2.1 133 (by omega), reF_step]
