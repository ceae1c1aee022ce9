/-! A WAY's text: the reference's loop -/
def zMw (wc : Nat) (S S' : ZSt) : Prop := zJ [130, 136, 137, 138, 139] S S' ∧ (∀ j, zmem j [7, 8, 9, 11, 14] = false → zI S' 130 j = zI S 130 j) ∧ (∀ j, j < 24 * wc → zI S' 137 j = zI S 137 j ∧ zI S' 138 j = zI S 138 j ∧ zI S' 139 j = zI S 139 j) ∧ ∀ j, j ≠ wc → zI S' 136 j = zI S 136 j
theorem zMw.rf {wc : Nat} {S : ZSt} : zMw wc S S := ⟨zJ.rf, fun _ _ => rfl, fun _ _ => ⟨rfl, rfl, rfl⟩, fun _ _ => rfl⟩
theorem zMw.tr {wc : Nat} {S S1 S2 : ZSt} (h1 : zMw wc S S1) (h2 : zMw wc S1 S2) : zMw wc S S2 := ⟨h1.1.tr h2.1, fun j hj => (h2.2.1 j hj).trans (h1.2.1 j hj), fun j hj => ⟨(h2.2.2.1 j hj).1.trans (h1.2.2.1 j hj).1, (h2.2.2.1 j hj).2.1.trans (h1.2.2.1 j hj).2.1, (h2.2.2.1 j hj).2.2.trans (h1.2.2.1 j hj).2.2⟩, fun j hj => (h2.2.2.2 j hj).trans (h1.2.2.2 j hj)⟩
theorem zMa.w {wc m : Nat} {S S' : ZSt} (h : zMa (24 * wc + m) S S') : zMw wc S S' := ⟨⟨h.1.1, fun c hc => h.1.2 c (zsub_of rfl c hc)⟩, fun j hj => h.2.1 j (zsub_of rfl j hj), fun j hj => h.2.2 j (by omega), fun j _ => by rw [h.1.2 136 rfl]⟩
theorem zKB.w {wc : Nat} {S S' : ZSt} (h : zKB S S') : zMw wc S S' := (zKB.a (q0 := 24 * wc + 0) h).w
theorem zMa.k14 {q0 : Nat} {S S' : ZSt} (h : zMa q0 S S') : zI S' 130 14 = zI S 130 14 := h.2.1 14 rfl
theorem jMx.A {q0 : Nat} {S S' : ZSt} {b : Nat → Nat} {e : Nat} (h : jMx S b e) (j : zMa q0 S S') : jMx S' b e := h.K (j.2.1 6 rfl) (j.1.2 134 rfl)
def jRo (S : ZSt) (wc m : Nat) (kd fa fb : Nat → Nat) : Prop := ∀ k, k < m → zI S 137 (24 * wc + k) = nI (kd k) ∧ zI S 138 (24 * wc + k) = eA (kd k) (fa k) ∧ zI S 139 (24 * wc + k) = eB (kd k) (fb k)
theorem jRo.c {S S' : ZSt} {wc m : Nat} {kd fa fb : Nat → Nat} (h : jRo S wc m kd fa fb) (e : zI S' 137 = zI S 137 ∧ zI S' 138 = zI S 138 ∧ zI S' 139 = zI S 139) : jRo S' wc m kd fa fb := by
  unfold jRo
  rw [e.1, e.2.1, e.2.2]
  exact h
theorem jRo.K {S S' : ZSt} {wc m : Nat} {kd fa fb : Nat → Nat} (h : jRo S wc m kd fa fb) (j : zK7 S S') : jRo S' wc m kd fa fb := h.c ⟨j.1.2 137 rfl, j.1.2 138 rfl, j.1.2 139 rfl⟩
theorem zneg {k wc : Nat} (hk : 1 ≤ k ∧ k ≤ 4) (hw : wc ≤ 6) : ¬ nI k - nI 10 = nI wc := fun h => by
  have h1 := congrArg Int32.toInt h
  rw [pk_sub_toInt (by omega) (by omega), nI_toInt (by omega)] at h1
  omega
theorem w_M_wy_end {k t wc : Nat} {x1 x2 : Int32} {u3 : Option Value} {S : ZSt} {Q : ZOut → ZSt → Prop} (hS : zSh S) (h14 : zI S 130 14 = nI wc) (hw : wc ≤ 6) (h : jBd S k t) (hk : 1 ≤ k ∧ k ≤ 4) (ht : t < 1000) (hQ : Q (.inl (some (.int (nI k - nI 10)))) (zsI S 130 11 (nI t))) : zcl 7 m_M_way m_M_result 166 88 [some (.ref 130), some (.int x1), some (.int x2), u3] [] [.ref 130, .int (zI S 130 14)] S Q := by
  refine w_M_result0 hS h hk ht (b_M_way_89 (((zJ.rf (l := [130])).I rfl).sh hS) ⟨fun _ => hQ, fun h9 => absurd ?_ (zneg hk hw)⟩)
  rw [Classical.not_not.mp h9, zI_o (by omega)]
  exact h14
theorem w_M_wy_bad {k t wc : Nat} {x1 x2 : Int32} {u3 : Option Value} {S : ZSt} {Q : ZOut → ZSt → Prop} (hS : zSh S) (h14 : zI S 130 14 = nI wc) (hw : wc ≤ 6) (h : jBd S k t) (hk : 1 ≤ k ∧ k ≤ 4) (ht : t < 1000) (hQ : Q (.inl (some (.int (nI k - nI 10)))) (zsI S 130 11 (nI t))) : zW 7 m_M_way 38 [some (.ref 130), some (.int x1), some (.int x2), u3] [] S Q :=
  b_M_way_38 hS (w_M_fine0 hS h ht (b_M_way_40 hS ⟨fun _ => w_M_wy_end hS h14 hw h hk ht hQ, fun h9 => absurd rfl h9⟩))
theorem w_M_wy38 {b : Nat → Nat} {e wc : Nat} {x1 : Int32} {Q : ZOut → ZSt → Prop} (hwc : wc < 6) : ∀ (f m p : Nat) (kd fa fb : Nat → Nat) {u3 : Option Value} {S : ZSt}, f + m = 25 → 0 < f → zSh S → zCst S → jMx S b e → p ≤ e → zI S 130 7 = nI p → jFn S → zI S 130 14 = nI wc → jRo S wc m kd fa fb → (tkK b e p = 0 → m ≠ 0) → (∀ k t, wlp b e f p kd fa fb m = .inl (k, t) → ∀ S', zMw wc S S' → zI S' 130 14 = nI wc → zI S' 136 = zI S 136 → zI S' 130 11 = nI t → Q (.inl (some (.int (nI k - nI 10)))) S') → (∀ kd' fa' fb' n, wlp b e f p kd fa fb m = .inr (kd', fa', fb', n) → ∀ S', zMw wc S S' → zI S' 130 14 = nI (wc + 1) → zI S' 130 11 = - nI 1 → jWM S' wc n kd' fa' fb' → Q (.inl (some (.int (nI wc)))) S') → zW 7 m_M_way 38 [some (.ref 130), some (.int x1), some (.int (nI m)), u3] [] S Q
  | 0, m, p, kd, fa, fb, u3, S, hf, h0, hS, hC, hx, hp, h7, hfn, h14, hro, hm, bad, ok => absurd h0 (Nat.lt_irrefl 0)
  | f + 1, m, p, kd, fa, fb, u3, S, hf, h0, hS, hC, hx, hp, h7, hfn, h14, hro, hm, bad, ok => by
    have he := hx.1
    obtain ⟨s1, s2⟩ := tkS_le (b := b) hp
    rw [wlp_s] at bad ok
    refine b_M_way_38 hS (w_M_fine1 hS hfn (b_M_way_40 hS ⟨fun h9 => absurd h9 (by decide), fun _ => w_M_isMore hS hx hp h7 (fun lt S1 j1 a1 => b_M_way_43 (j1.sh hS) ⟨fun h9 => absurd h9 (by decide), fun _ => ?_⟩) (fun eq S1 j1 a1 => b_M_way_43 (j1.sh hS) ⟨fun _ => ?_, fun h9 => absurd rfl h9⟩)⟩))
    · have kne : tkK b e p ≠ 0 := fun z => by
        have := (tkK_0 hp).mp z
        omega
      rw [if_neg kne] at bad ok
      have hS1 := j1.sh hS
      refine w_M_word hS1 (hx.J j1) s2 a1 (fun S2 j2 a2 => b_M_way_46 (j2.sh hS1) ?_)
      have hS2 := j2.sh hS1
      have J2 := j1.tr j2
      have hx2 := hx.J J2
      have hf2 := hfn.K J2
      have hC2 := hC.J J2.1 rfl
      have e14 : zI S2 130 14 = nI wc := (J2.2 14 (by omega)).trans h14
      rw [(tk_S hp).2.2.2.1]
      rw [tkS_tkS hp] at a2
      refine w_M_actWord tkW_lt hS2 hC2 (b_M_way_47 hS2 ?_)
      obtain ⟨w1, w2⟩ := wix_N (sW 23) (tkW b e p) 0
      rw [w1]
      -- a fault
      have flt : ∀ (k t : Nat) (S3 : ZSt), zMw wc S S3 → zI S3 130 14 = nI wc → zI S3 136 = zI S 136 → (match ixN (sW 23) (tkW b e p) 0 with
        | none => (.inl (1, tkS b e p) : (Nat × Nat) ⊕ ((Nat → Nat) × (Nat → Nat) × (Nat → Nat) × Nat))
        | some i => if m = 24 then .inl (3, tkS b e p) else match wac b e p i with
          | .inl x => .inl x
          | .inr y => wlp b e f y.2.2 (upN kd m i) (upN fa m y.1) (upN fb m y.2.1) (m + 1)) = .inl (k, t) → Q (.inl (some (.int (nI k - nI 10)))) (zsI S3 130 11 (nI t)) := fun k t S3 k1 k2 k4 k3 => bad k t k3 _ ⟨k1.1.I rfl, fun j hj => by rw [zI_o (fun e => by rw [e] at hj; cases hj)]; exact k1.2.1 j hj, fun j hj => by rw [zI_ne _ _ (by omega), zI_ne _ _ (by omega), zI_ne _ _ (by omega)]; exact k1.2.2.1 j hj, fun j hj => by rw [zI_ne _ _ (by omega)]; exact k1.2.2.2 j hj⟩ (by rw [zI_o (by omega)]; exact k2) (by rw [zI_ne _ _ (by omega)]; exact k4) zI_s
      cases hi : ixN (sW 23) (tkW b e p) 0 with
      | none =>
        rw [hi] at flt
        refine ⟨fun h9 => absurd rfl h9, fun _ => ?_⟩
        rw [a2]
        exact w_M_wrong hS2 hf2 (fun S3 j3 d3 => b_M_way_56 (j3.sh hS2) (w_M_fine0 (j3.sh hS2) d3 (by omega) (b_M_way_67 (j3.sh hS2) ⟨fun h9 => absurd rfl h9, fun _ => w_M_wy_end (j3.sh hS2) ((j3.2 14 (by omega) (by omega) (by omega)).trans e14) (by omega) d3 (by omega) (by omega) (flt 1 _ S3 (J2.B.tr j3).w ((j3.2 14 (by omega) (by omega) (by omega)).trans e14) ((J2.B.tr j3).1.2 136 rfl) rfl)⟩)))
      | some i =>
        rw [hi] at flt ok
        have i12 : i < 12 := by
          have := w2 i hi
          rw [sW23] at this
          omega
        refine ⟨fun _ => ⟨fun h9 => ?_, fun h9 => ?_⟩, fun h9 => absurd (nI_m1 (by omega)) h9⟩
        · have m24 : m ≠ 24 := fun z => h9 (by rw [z])
          simp only [if_neg m24] at flt ok
          have k1 : tkK b e p = 1 := tkW_pos (ixN_pos _ _ _ _ sW23_p hi)
          refine w_M_fine1 hS2 hf2 (b_M_way_67 hS2 ⟨fun _ => w_M_pass hS2 hx2 hp a2 k1 (fun S4 j4 a4 => b_M_way_71 (j4.sh hS2) ?_), fun h8 => absurd (by decide) h8⟩)
          have hS4 := j4.sh hS2
          have J4 := J2.tr j4
          have hx4 := hx.J J4
          have hf4 := hfn.K J4
          have hp4 := tkE_le (b := b) hp
          have e14' : zI S4 130 14 = nI wc := (J4.2 14 (by omega)).trans h14
          rw [e14', pk_mul, nI_add]
          refine w_M_readAct (q0 := 24 * wc + m) i12 (by omega) hS4 hx4 hp4 a4 hf4 (fun k t hw hk htl S5 j5 d5 => b_M_way_80 (j5.1.sh hS4) (w_M_sign0 (j5.1.sh hS4) d5 (by omega) (b_M_way_83 (j5.1.sh hS4) (w_M_wy_bad (j5.1.sh hS4) (j5.k14.trans e14') (by omega) d5 hk (by omega) (flt k t S5 (J4.B.w.tr j5.w) (j5.k14.trans e14') (by rw [j5.1.2 136 rfl, J4.1.2 136 rfl]) ?_))))) (fun a c r hw hr' S5 j5 f5 a5 r7 r8 r9 => b_M_way_80 (j5.1.sh hS4) ?_)
          · have W : wac b e p i = .inl (k, t) := by
              unfold wac
              rw [hw]
            rw [W]
          · have hS5 := j5.1.sh hS4
            have hx5 := hx4.A j5
            have q1 := tkS_le (b := b) hr'
            have W : wac b e p i = if hr b e r = 59 then .inr (a, c, tkE b e r) else .inl (1, tkS b e r) := by
              unfold wac
              rw [hw]
            refine w_M_sign (by omega) hS5 hx5 hr' a5 f5 (fun h8 S7 j7 a7 => b_M_way_83 (j7.sh hS5) ?_) (fun h8 S7 j7 d7 => b_M_way_83 (j7.sh hS5) (w_M_wy_bad (j7.sh hS5) ((j7.2 14 (by omega) (by omega) (by omega)).trans (j5.k14.trans e14')) (by omega) d7 (by omega) (by omega) (flt 1 _ S7 ((J4.B.w.tr j5.w).tr j7.w) ((j7.2 14 (by omega) (by omega) (by omega)).trans (j5.k14.trans e14')) (by rw [j7.1.2 136 rfl, j5.1.2 136 rfl, J4.1.2 136 rfl]) ?_)))
            · rw [if_pos h8] at W
              rw [W] at flt ok
              have e7 : tkE b e r = tkS b e r + 1 := tkE_3 ((hr_is (by rfl) (by omega)).mp h8).1
              rw [nI_add]
              have J7 : zMw wc S S7 := (J4.B.w.tr j5.w).tr j7.B.w
              have hr7 : jRo S7 wc (m + 1) (upN kd m i) (upN fa m a) (upN fb m c) := fun k hk => by
                rw [j7.1.2 137 rfl, j7.1.2 138 rfl, j7.1.2 139 rfl]
                unfold upN
                by_cases ek : k = m
                · rw [if_pos ek, if_pos ek, if_pos ek, ek]
                  exact ⟨r7, r8, r9⟩
                · rw [if_neg ek, if_neg ek, if_neg ek]
                  obtain ⟨g1, g2, g3⟩ := j5.2.2 (24 * wc + k) (by omega)
                  rw [g1, g2, g3, J4.1.2 137 rfl, J4.1.2 138 rfl, J4.1.2 139 rfl]
                  exact hro k (by omega)
              have hC7 : zCst S7 := ((hC.J J4.1 rfl).J j5.1 rfl).J j7.1 rfl
              exact w_M_wy38 hwc f (m + 1) (tkE b e r) _ _ _ (by omega) (by omega) (j7.sh hS5) hC7 (hx5.J j7) (tkE_le hr') (by rw [e7]; exact a7) (f5.K j7) ((j7.2 14 (by omega)).trans (j5.k14.trans e14')) hr7 (fun _ => by omega) (fun k t h S' j a14 a136 a11 => by
                have := flt k t S' (J7.tr j) a14 (by rw [a136, j7.1.2 136 rfl, j5.1.2 136 rfl, J4.1.2 136 rfl]) h
                refine bad k t ?_ S' (J7.tr j) a14 (by rw [a136, j7.1.2 136 rfl, j5.1.2 136 rfl, J4.1.2 136 rfl]) a11
                rw [hi]
                simp only [if_neg m24]
                rw [W]
                exact h) (fun kd' fa' fb' n h S' j a14 a11 w => ok kd' fa' fb' n h S' (J7.tr j) a14 a11 w)
            · rw [if_neg h8] at W
              rw [W]
        · have m24 : m = 24 := nEq (by omega) (by omega) (Classical.not_not.mp h9)
          simp only [if_pos m24] at flt
          rw [a2]
          exact w_M_wrong hS2 hf2 (fun S3 j3 d3 => b_M_way_65 (j3.sh hS2) (w_M_fine0 (j3.sh hS2) d3 (by omega) (b_M_way_67 (j3.sh hS2) ⟨fun h9 => absurd rfl h9, fun _ => w_M_wy_end (j3.sh hS2) ((j3.2 14 (by omega) (by omega) (by omega)).trans e14) (by omega) d3 (by omega) (by omega) (flt 3 _ S3 (J2.B.tr j3).w ((j3.2 14 (by omega) (by omega) (by omega)).trans e14) ((J2.B.tr j3).1.2 136 rfl) rfl)⟩)))
    · have k0 : tkK b e p = 0 := (tkK_0 hp).mpr eq
      have m0 := hm k0
      rw [if_pos k0, if_neg m0] at ok
      have hS1 := j1.sh hS
      have e14 : zI S1 130 14 = nI wc := (j1.2 14 (by omega)).trans h14
      rw [e14]
      refine w_M_result1 hS1 (hfn.K j1) (b_M_way_89 (((zJ.rf (l := [130])).I rfl).sh hS1) ?_)
      have e14' : zI (zsI S1 130 11 (- nI 1)) 130 14 = nI wc := by rw [zI_o (by omega)]; exact e14
      rw [e14', zcl9 (by omega), nI_add]
      refine ⟨fun h9 => absurd rfl h9, fun _ => ⟨zin (by omega) (by omega), ok kd fa fb m rfl _ ⟨?_, fun j hj => ?_, fun j hj => ?_, fun j hj => ?_⟩ zI_s ?_ ⟨?_, fun k hk => ?_⟩⟩⟩
      · exact (((zJ.tr (l := [130, 136, 137, 138, 139]) ⟨j1.1.1, fun c hc => j1.1.2 c (zsub_of rfl c hc)⟩ zJ.rf).I rfl).I rfl).I rfl
      · rw [zI_o (fun e => by rw [e] at hj; cases hj), zI_ne _ _ (by omega), zI_o (fun e => by rw [e] at hj; cases hj)]
        exact j1.2 j (fun e => by rw [e] at hj; cases hj)
      · rw [zI_ne _ _ (by omega), zI_ne _ _ (by omega), zI_ne _ _ (by omega), zI_ne _ _ (by omega), zI_ne _ _ (by omega), zI_ne _ _ (by omega), zI_ne _ _ (by omega), zI_ne _ _ (by omega), zI_ne _ _ (by omega), j1.1.2 137 rfl, j1.1.2 138 rfl, j1.1.2 139 rfl]
        exact ⟨rfl, rfl, rfl⟩
      · rw [zI_ne _ _ (by omega), zI_o hj, zI_ne _ _ (by omega), j1.1.2 136 rfl]
      · rw [zI_o (by omega), zI_ne _ _ (by omega), zI_s]
      · rw [zI_ne _ _ (by omega), zI_s]
      · rw [zI_ne _ _ (by omega), zI_ne _ _ (by omega), zI_ne _ _ (by omega), zI_ne _ _ (by omega), zI_ne _ _ (by omega), zI_ne _ _ (by omega), zI_ne _ _ (by omega), zI_ne _ _ (by omega), zI_ne _ _ (by omega), j1.1.2 137 rfl, j1.1.2 138 rfl, j1.1.2 139 rfl]
        exact hro k hk
