/-! Rows of a new object -/
def zMk (S0 S S1 : ZSt) (o t : Nat) (kf lf : Nat → Nat) (n : Nat) : Prop := zGr S0 S1 ∧ zx S1 = zx S + n ∧ zc S1 o = t ∧ (∀ j, j < n → zR S1 o (kf j) = some (zx S + j) ∧ zArr S1 (zx S + j) (lf j)) ∧ (∀ k q, zR S1 o k = some q → ∃ j, j < n ∧ k = kf j ∧ q = zx S + j) ∧ (∀ j, j < n → ∀ k, zR S1 (zx S + j) k = none) ∧ zu S1 = zu S + n ∧ zz S1 ≤ zz S + 36 * n
theorem zMk.step {S0 S S1 : ZSt} {o t n a b : Nat} {kf lf : Nat → Nat} {f : Nat → Int32} (h : zMk S0 S S1 o t kf lf n) (hx : 162 ≤ zx S0) (ho : zx S0 ≤ o ∧ o < zx S) (hk : ∀ j, j < n → kf j ≠ kf n) (ha : a = lf n) (hb : b ≤ 36) : zMk S0 S (zsR (zNew S1 100 a b f) o (kf n) (some (zx S1))) o t kf lf (n + 1) := by
  subst ha
  obtain ⟨h1, h2, h3, h4, h5, h6, h7, h8⟩ := h
  have ex : zx (zNew S1 100 (lf n) b f) = zx S1 + 1 := rfl
  have eR : ∀ c, c ≠ o → c ≠ zx S1 → zR (zsR (zNew S1 100 (lf n) b f) o (kf n) (some (zx S1))) c = zR S1 c := fun c x y => (zup_ne x).trans (zup_ne y)
  have eo : ∀ k, k ≠ kf n → zR (zsR (zNew S1 100 (lf n) b f) o (kf n) (some (zx S1))) o k = zR S1 o k := fun k hk => by
    show va_up (zR (zNew S1 100 (lf n) b f)) o (va_up (zR (zNew S1 100 (lf n) b f) o) (kf n) (some (zx S1))) o k = _
    rw [va_up_self, zup_ne hk]
    show va_up (zR S1) (zx S1) _ o k = _
    rw [zup_ne (by omega)]
  have en : zR (zsR (zNew S1 100 (lf n) b f) o (kf n) (some (zx S1))) o (kf n) = some (zx S1) := by
    show va_up (zR (zNew S1 100 (lf n) b f)) o (va_up (zR (zNew S1 100 (lf n) b f) o) (kf n) (some (zx S1))) o (kf n) = _
    rw [va_up_self, va_up_self]
  have ec : ∀ c, c ≠ zx S1 → zc (zsR (zNew S1 100 (lf n) b f) o (kf n) (some (zx S1))) c = zc S1 c := fun c x => zup_ne x
  have el : ∀ c, c ≠ zx S1 → zn (zsR (zNew S1 100 (lf n) b f) o (kf n) (some (zx S1))) c = zn S1 c := fun c x => zup_ne x
  refine ⟨(h1.new hx).R ho.1 (by omega), by show zx S1 + 1 = zx S + (n + 1); omega, (ec o (by omega)).trans h3, fun j hj => ?_, fun k q hq => ?_, fun j hj k => ?_, by show zu S1 + 1 = zu S + (n + 1); omega, by show zz S1 + b ≤ zz S + 36 * (n + 1); omega⟩
  · by_cases e : j = n
    · subst e
      exact ⟨en.trans (by rw [h2]), by rw [← h2]; exact va_up_self _ _ _, by rw [← h2]; exact va_up_self _ _ _⟩
    · obtain ⟨a1, a2, a3⟩ := h4 j (by omega)
      exact ⟨(eo _ (hk j (by omega))).trans a1, (ec _ (by omega)).trans a2, (el _ (by omega)).trans a3⟩
  · by_cases e : k = kf n
    · subst e
      rw [en] at hq
      cases hq
      exact ⟨n, by omega, rfl, h2⟩
    · rw [eo k e] at hq
      obtain ⟨j, a1, a2, a3⟩ := h5 k q hq
      exact ⟨j, by omega, a2, a3⟩
  · by_cases e : j = n
    · subst e
      have : zR (zsR (zNew S1 100 (lf j) b f) o (kf j) (some (zx S1))) (zx S + j) = fun _ => none := by
        rw [← h2]
        exact (zup_ne (by omega)).trans (va_up_self _ _ _)
      rw [this]
    · rw [eR _ (by omega) (by omega)]
      exact h6 j (by omega) k
theorem w_JA_fillN5 {S0 : ZSt} {r m : Nat} {v : Int32} {Q : ZOut → ZSt → Prop} (hm : m ≤ 60) (hS0 : zSh S0) (hr : zx S0 ≤ r) : ∀ (f i : Nat) {S S1 : ZSt}, f + i = m → zGr S0 S1 → S1.2 = S.2 → zArr S r m → (∀ S', S'.2 = S.2 → zGr S0 S' → Q (.inl none) S') → zW 1 m_JA_fill 5 [some (.ref r), some (.int v), some (.int (nI i)), some (.int (nI m))] [] S1 Q
  | 0, i, S, S1, hi, g, e, ha, hQ => b_JA_fill_5 (g.sh hS0) ⟨fun _ => hQ S1 e g, fun h9 => absurd (nI_le (show m ≤ i by omega) (by omega)) h9⟩
  | f + 1, i, S, S1, hi, g, e, ha, hQ => by
    have ec : zc S1 r = 100 := by
      have : zc S1 = zc S := by show S1.2.2.2.2.1 = S.2.2.2.2.1; rw [e]
      rw [this]; exact ha.1
    have en : zn S1 r = m := by
      have : zn S1 = zn S := by show S1.2.2.2.1 = S.2.2.2.1; rw [e]
      rw [this]; exact ha.2
    refine b_JA_fill_5 (g.sh hS0) ⟨fun h9 => absurd h9 (nI_ge (by omega) (by omega)), fun _ => ⟨ec, by rw [en]; exact zin (by omega) (by omega), ?_⟩⟩
    rw [nI_add]
    exact w_JA_fillN5 hm hS0 hr f (i + 1) (by omega) (g.I hr) e ha hQ
theorem w_JA_fillN {S0 S : ZSt} {r m : Nat} {v : Int32} {Q : ZOut → ZSt → Prop} (hm : m ≤ 60) (hS0 : zSh S0) (hr : zx S0 ≤ r) (g : zGr S0 S) (ha : zArr S r m) (hQ : ∀ S', S'.2 = S.2 → zGr S0 S' → Q (.inl none) S') : zC m_JA_fill [.ref r, .int v] S Q := by
  refine b_JA_fill (g.sh hS0) ⟨ha.1, ?_⟩
  rw [ha.2]
  exact w_JA_fillN5 hm hS0 hr m 0 (by omega) g rfl ha hQ
def kfS (j : Nat) : Nat := if j < 3 then j else j + 1
def kfW (j : Nat) : Nat := j
theorem zMk.rf {S0 S : ZSt} {o t : Nat} {kf lf : Nat → Nat} (g : zGr S0 S) (c : zc S o = t) (n : ∀ k, zR S o k = none) : zMk S0 S S o t kf lf 0 := ⟨g, rfl, c, fun j h => by omega, fun k q h => (by rw [n k] at h; cases h), fun j h => by omega, rfl, Nat.le_refl _⟩
theorem w_Wa_init {S0 S : ZSt} {o : Nat} {Q : ZOut → ZSt → Prop} (hS0 : zSh S0) (g : zGr S0 S) (ho : zx S0 ≤ o ∧ o < zx S) (hc : zc S o = 9) (hn : ∀ k, zR S o k = none) (hQ : ∀ S', zMk S0 S S' o 9 kfW (fun _ => 24) 3 → Q (.inl none) S') : zC m_Wa_init [.ref o] S Q := by
  have hx : 162 ≤ zx S0 := hS0.2.2.2
  have l24 : (nI 24).toNatClampNeg = 24 := by decide
  have p0 : zMk S0 S S o 9 kfW (fun _ => 24) 0 := zMk.rf g hc hn
  refine b_Wa_init (p0.1.sh hS0) ⟨by decide, by decide, zTr_big (by omega), (zup_ne (by have := p0.2.1; omega)).trans p0.2.2.1, ?_⟩
  rw [l24]
  have p1 : zMk S0 S (zsR (zNew S 100 24 24 (fun _ => 0)) o 0 (some (zx S))) o 9 kfW (fun _ => 24) 1 := p0.step (a := 24) (b := 24) (f := fun _ => 0) hx ho (fun i hi => by unfold kfW; omega) rfl (by omega)
  revert p1
  generalize zsR (zNew S 100 24 24 (fun _ => 0)) o 0 (some (zx S)) = S1
  intro p1
  refine b_Wa_init_6 (p1.1.sh hS0) ⟨by decide, by decide, zTr_big (by omega), (zup_ne (by have := p1.2.1; omega)).trans p1.2.2.1, ?_⟩
  rw [l24]
  have p2 : zMk S0 S (zsR (zNew S1 100 24 24 (fun _ => 0)) o 1 (some (zx S1))) o 9 kfW (fun _ => 24) 2 := p1.step (a := 24) (b := 24) (f := fun _ => 0) hx ho (fun i hi => by unfold kfW; omega) rfl (by omega)
  revert p2
  generalize zsR (zNew S1 100 24 24 (fun _ => 0)) o 1 (some (zx S1)) = S2
  intro p2
  refine b_Wa_init_10 (p2.1.sh hS0) ⟨by decide, by decide, zTr_big (by omega), (zup_ne (by have := p2.2.1; omega)).trans p2.2.2.1, ?_⟩
  rw [l24]
  have p3 : zMk S0 S (zsR (zNew S2 100 24 24 (fun _ => 0)) o 2 (some (zx S2))) o 9 kfW (fun _ => 24) 3 := p2.step (a := 24) (b := 24) (f := fun _ => 0) hx ho (fun i hi => by unfold kfW; omega) rfl (by omega)
  revert p3
  generalize zsR (zNew S2 100 24 24 (fun _ => 0)) o 2 (some (zx S2)) = S3
  intro p3
  exact b_Wa_init_14 (p3.1.sh hS0) (hQ S3 p3)
theorem w_St_init {S0 S : ZSt} {o : Nat} {Q : ZOut → ZSt → Prop} (hS0 : zSh S0) (g : zGr S0 S) (ho : zx S0 ≤ o ∧ o < zx S) (hc : zc S o = 3) (hn : ∀ k, zR S o k = none) (hQ : ∀ S' S1, zMk S0 S S1 o 3 kfS (fun j => imL (kfS j)) 11 → S'.2 = S1.2 → zGr S0 S' → Q (.inl none) S') : zC m_St_init [.ref o] S Q := by
  have hx : 162 ≤ zx S0 := hS0.2.2.2
  have hS : zSh S := g.sh hS0
  have p0 : zMk S0 S S o 3 kfS (fun j => imL (kfS j)) 0 := zMk.rf g hc hn
  have inj : ∀ n i, i < n → kfS i ≠ kfS n := fun n i h => by
    unfold kfS
    split <;> split <;> omega
  have n1 : zn S 1 = 6 := hS.2.1 1 (by omega) (by omega)
  refine b_St_init hS ⟨hS.1 1 (by omega), va_up_self _ _ _, zTr_big (by omega), (zup_ne (by omega)).trans hc, ?_⟩
  rw [n1]
  have p1 : zMk S0 S (zsR (zNew S 100 6 6 (zI S 1)) o 0 (some (zx S))) o 3 kfS (fun j => imL (kfS j)) 1 := p0.step (a := 6) (b := 6) (f := zI S 1) hx ho (inj 0) rfl (by omega)
  revert p1
  generalize zsR (zNew S 100 6 6 (zI S 1)) o 0 (some (zx S)) = S1
  intro p1
  refine b_St_init_7 (p1.1.sh hS0) ⟨by decide, by decide, zTr_big (by omega), (zup_ne (by have := p1.2.1; omega)).trans p1.2.2.1, ?_⟩
  rw [show (nI 12).toNatClampNeg = 12 by decide]
  have p2 : zMk S0 S (zsR (zNew S1 100 12 12 (fun _ => 0)) o 1 (some (zx S1))) o 3 kfS (fun j => imL (kfS j)) 2 := p1.step (a := 12) (b := 12) (f := fun _ => 0) hx ho (inj 1) rfl (by omega)
  revert p2
  generalize zsR (zNew S1 100 12 12 (fun _ => 0)) o 1 (some (zx S1)) = S2
  intro p2
  refine b_St_init_11 (p2.1.sh hS0) ⟨by decide, by decide, zTr_big (by omega), (zup_ne (by have := p2.2.1; omega)).trans p2.2.2.1, ?_⟩
  rw [show (nI 24).toNatClampNeg = 24 by decide]
  have p3 : zMk S0 S (zsR (zNew S2 100 24 24 (fun _ => 0)) o 2 (some (zx S2))) o 3 kfS (fun j => imL (kfS j)) 3 := p2.step (a := 24) (b := 24) (f := fun _ => 0) hx ho (inj 2) rfl (by omega)
  revert p3
  generalize zsR (zNew S2 100 24 24 (fun _ => 0)) o 2 (some (zx S2)) = S3
  intro p3
  refine b_St_init_15 (p3.1.sh hS0) ⟨by decide, by decide, zTr_big (by omega), (zup_ne (by have := p3.2.1; omega)).trans p3.2.2.1, ?_⟩
  rw [show (nI 4).toNatClampNeg = 4 by decide]
  have p4 : zMk S0 S (zsR (zNew S3 100 4 4 (fun _ => 0)) o 4 (some (zx S3))) o 3 kfS (fun j => imL (kfS j)) 4 := p3.step (a := 4) (b := 4) (f := fun _ => 0) hx ho (inj 3) rfl (by omega)
  revert p4
  generalize zsR (zNew S3 100 4 4 (fun _ => 0)) o 4 (some (zx S3)) = S4
  intro p4
  refine b_St_init_19 (p4.1.sh hS0) ⟨by decide, by decide, zTr_big (by omega), (zup_ne (by have := p4.2.1; omega)).trans p4.2.2.1, ?_⟩
  rw [show (nI 12).toNatClampNeg = 12 by decide]
  have p5 : zMk S0 S (zsR (zNew S4 100 12 12 (fun _ => 0)) o 5 (some (zx S4))) o 3 kfS (fun j => imL (kfS j)) 5 := p4.step (a := 12) (b := 12) (f := fun _ => 0) hx ho (inj 4) rfl (by omega)
  revert p5
  generalize zsR (zNew S4 100 12 12 (fun _ => 0)) o 5 (some (zx S4)) = S5
  intro p5
  refine b_St_init_23 (p5.1.sh hS0) ⟨by decide, by decide, zTr_big (by omega), (zup_ne (by have := p5.2.1; omega)).trans p5.2.2.1, ?_⟩
  rw [show (nI 24).toNatClampNeg = 24 by decide]
  have p6 : zMk S0 S (zsR (zNew S5 100 24 24 (fun _ => 0)) o 6 (some (zx S5))) o 3 kfS (fun j => imL (kfS j)) 6 := p5.step (a := 24) (b := 24) (f := fun _ => 0) hx ho (inj 5) rfl (by omega)
  revert p6
  generalize zsR (zNew S5 100 24 24 (fun _ => 0)) o 6 (some (zx S5)) = S6
  intro p6
  refine b_St_init_27 (p6.1.sh hS0) ⟨by decide, by decide, zTr_big (by omega), (zup_ne (by have := p6.2.1; omega)).trans p6.2.2.1, ?_⟩
  rw [show (nI 24).toNatClampNeg = 24 by decide]
  have p7 : zMk S0 S (zsR (zNew S6 100 24 24 (fun _ => 0)) o 7 (some (zx S6))) o 3 kfS (fun j => imL (kfS j)) 7 := p6.step (a := 24) (b := 24) (f := fun _ => 0) hx ho (inj 6) rfl (by omega)
  revert p7
  generalize zsR (zNew S6 100 24 24 (fun _ => 0)) o 7 (some (zx S6)) = S7
  intro p7
  refine b_St_init_31 (p7.1.sh hS0) ⟨by decide, by decide, zTr_big (by omega), (zup_ne (by have := p7.2.1; omega)).trans p7.2.2.1, ?_⟩
  rw [show (nI 36).toNatClampNeg = 36 by decide]
  have p8 : zMk S0 S (zsR (zNew S7 100 36 36 (fun _ => 0)) o 8 (some (zx S7))) o 3 kfS (fun j => imL (kfS j)) 8 := p7.step (a := 36) (b := 36) (f := fun _ => 0) hx ho (inj 7) rfl (by omega)
  revert p8
  generalize zsR (zNew S7 100 36 36 (fun _ => 0)) o 8 (some (zx S7)) = S8
  intro p8
  refine b_St_init_35 (p8.1.sh hS0) ⟨by decide, by decide, zTr_big (by omega), (zup_ne (by have := p8.2.1; omega)).trans p8.2.2.1, ?_⟩
  rw [show (nI 36).toNatClampNeg = 36 by decide]
  have p9 : zMk S0 S (zsR (zNew S8 100 36 36 (fun _ => 0)) o 9 (some (zx S8))) o 3 kfS (fun j => imL (kfS j)) 9 := p8.step (a := 36) (b := 36) (f := fun _ => 0) hx ho (inj 8) rfl (by omega)
  revert p9
  generalize zsR (zNew S8 100 36 36 (fun _ => 0)) o 9 (some (zx S8)) = S9
  intro p9
  refine b_St_init_39 (p9.1.sh hS0) ⟨by decide, by decide, zTr_big (by omega), (zup_ne (by have := p9.2.1; omega)).trans p9.2.2.1, ?_⟩
  rw [show (nI 36).toNatClampNeg = 36 by decide]
  have p10 : zMk S0 S (zsR (zNew S9 100 36 36 (fun _ => 0)) o 10 (some (zx S9))) o 3 kfS (fun j => imL (kfS j)) 10 := p9.step (a := 36) (b := 36) (f := fun _ => 0) hx ho (inj 9) rfl (by omega)
  revert p10
  generalize zsR (zNew S9 100 36 36 (fun _ => 0)) o 10 (some (zx S9)) = S10
  intro p10
  refine b_St_init_43 (p10.1.sh hS0) ⟨by decide, by decide, zTr_big (by omega), (zup_ne (by have := p10.2.1; omega)).trans p10.2.2.1, ?_⟩
  rw [show (nI 10).toNatClampNeg = 10 by decide]
  have p11 : zMk S0 S (zsR (zNew S10 100 10 10 (fun _ => 0)) o 11 (some (zx S10))) o 3 kfS (fun j => imL (kfS j)) 11 := p10.step (a := 10) (b := 10) (f := fun _ => 0) hx ho (inj 10) rfl (by omega)
  revert p11
  generalize zsR (zNew S10 100 10 10 (fun _ => 0)) o 11 (some (zx S10)) = S11
  intro p11
  obtain ⟨q1, q2⟩ := p11.2.2.2.1 10 (by omega)
  exact b_St_init_47 (p11.1.sh hS0) ⟨p11.2.2.1, zx S + 10, q1, w_JA_fillN (m := 10) (by omega) hS0 (by omega) p11.1 q2 (fun S' e g' => b_St_init_51 (g'.sh hS0) (hQ S' S11 p11 e g'))⟩
set_option maxRecDepth 4000 in
theorem b_N_image_17n {p0 : Nat} {S : ZSt} {Q : ZOut → ZSt → Prop} (hS : zSh S) (h : (zTr 104 ((zI S 75 10).toNatClampNeg) = none ∧ zc S 104 = 113 ∧ zc S p0 = 3 ∧ vp_in (zI S 75 10) (zn S 104) ∧ (zc (zsR S 104 ((zI S 75 10).toNatClampNeg) (some p0)) p0 = 3 ∧ zcl 3 m_N_image m_St_copyFrom 47 27 [some (.ref 75), some (.ref p0)] [] [.ref p0, .ref 92] (zsR S 104 ((zI S 75 10).toNatClampNeg) (some p0)) Q))) : zW 3 m_N_image 17 [some (.ref 75), some (.null)] [.ref p0] S Q := zF_W 16 (cs := []) (dy := [10, 16, 23, 27]) hS h
