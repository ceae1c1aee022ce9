/-! image -/
theorem zIm.base {S S2 : ZSt} {tg : Nat → Nat} {ic : Nat} (hB : zBase S) (g : zTg S tg) (e2 : S2.2 = S.2) (hA : ∀ c, c ≠ 75 → c ≠ 130 → c ≠ 133 → ¬ (162 ≤ c ∧ 3000 + 20 * ic ≤ tg c ∧ tg c ≤ 3012 + 20 * ic) → zI S2 c = zI S c) (h75 : ∀ j, j ≠ 10 → zI S2 75 j = zI S 75 j) (h130 : ∀ j, j ≠ 0 → j ≠ 4 → zI S2 130 j = zI S 130 j) (hI : jIms S2) : zBase S2 := by
  obtain ⟨b1, b2, b3, b4, b5, b6, b7, b8, -, b10, b11⟩ := hB
  have eR : zR S2 = zR S := by show S2.2.2.1 = S.2.2.1; rw [e2]
  have en : zn S2 = zn S := by show S2.2.2.2.1 = S.2.2.2.1; rw [e2]
  have ec : zc S2 = zc S := by show S2.2.2.2.2.1 = S.2.2.2.2.1; rw [e2]
  have ex : zx S2 = zx S := by show S2.2.2.2.2.2.1 = S.2.2.2.2.2.1; rw [e2]
  have lo : ∀ c, c < 162 → c ≠ 75 → c ≠ 130 → c ≠ 133 → zI S2 c = zI S c := fun c h1 h2 h3 h4 => hA c h2 h3 h4 (fun h9 => by omega)
  have hi : ∀ c, 162 ≤ c → tg c < 3000 → zI S2 c = zI S c := fun c h1 h2 => hA c (by omega) (by omega) (by omega) (fun h9 => by omega)
  have es : zStk S2 = zStk S := by
    unfold zStk
    rw [eR, ec]
  refine ⟨fun c j a1 a2 => ?_, ?_, ?_, ?_, ?_, hI, ?_, by rw [eR]; exact b8, ⟨tg, by unfold zTg; rw [eR, ec]; exact g⟩, fun c hc => b10 c (by rw [← es]; exact hc), by unfold zWf; rw [eR, ex]; exact b11⟩
  · rw [lo c (by omega) (by omega) (by omega) (by omega)]
    exact b1 c j a1 a2
  · unfold jTape
    rw [lo 76 (by omega) (by omega) (by omega) (by omega), lo 77 (by omega) (by omega) (by omega) (by omega), lo 134 (by omega) (by omega) (by omega) (by omega), h130 5 (by omega) (by omega)]
    exact b2
  · rw [lo 76 (by omega) (by omega) (by omega) (by omega), h130 11 (by omega) (by omega)]
    exact b3
  · obtain ⟨wc, w1, w2, w3, w4⟩ := b4
    refine ⟨wc, w1, by rw [h75 6 (by omega)]; exact w2, by rw [h130 14 (by omega) (by omega)]; exact w3, fun i' hi' => ?_⟩
    obtain ⟨o', ra, rb', rc, n, kd, fa, fb, c1, ⟨d0, d1, d2, d3⟩, c2, c3, c4⟩ := w4 i' hi'
    obtain ⟨t0, t1, t2⟩ := g.1 i' o' c1
    have ta := t2 0 ra (by omega) c3.2.2.1.1
    have tb := t2 1 rb' (by omega) c3.2.2.1.2.1
    have tc := t2 2 rc (by omega) c3.2.2.1.2.2
    refine ⟨o', ra, rb', rc, n, kd, fa, fb, by rw [eR]; exact c1, by unfold zDy; rw [ex]; exact ⟨d0, d1, d2, d3⟩, c2, ?_, c4.cg (lo 136 (by omega) (by omega) (by omega) (by omega)) (lo 137 (by omega) (by omega) (by omega) (by omega)) (lo 138 (by omega) (by omega) (by omega) (by omega)) (lo 139 (by omega) (by omega) (by omega) (by omega))⟩
    unfold jWO zArr
    rw [ec, en, eR, hi o' d0.1 (by omega), hi ra d1.1 (by omega), hi rb' d2.1 (by omega), hi rc d3.1 (by omega)]
    exact c3
  · obtain ⟨tc, st, t1, t2, t3, t4, t5, t9, t6⟩ := b5
    refine ⟨tc, st, t1, t2, by rw [h75 7 (by omega)]; exact t3, by rw [h130 15 (by omega) (by omega)]; exact t4, by rw [h130 20 (by omega) (by omega)]; exact t5, fun i9 h9 => by rw [eR]; exact t9 i9 h9, fun i' hi' => ?_⟩
    obtain ⟨o2, cs, c1, ⟨k1, ra, rb', rs, k2, ⟨k3, k4⟩, ⟨k5, k6⟩, k7⟩, c3, f, c4, c5⟩ := t6 i' hi'
    obtain ⟨x0, x1, x2⟩ := g.2.1 i' o2 c1
    have ta := x2 0 ra (by omega) k7.2.1.1
    have tb := x2 1 rb' (by omega) k7.2.1.2.1
    refine ⟨o2, cs, by rw [eR]; exact c1, ⟨k1, ra, rb', rs, k2, by unfold zOkC; rw [es]; exact ⟨k3, k4⟩, by rw [es]; exact ⟨k5, k6⟩, ?_⟩, by rw [lo 142 (by omega) (by omega) (by omega) (by omega)]; exact c3, f, c4.cg (lo 140 (by omega) (by omega) (by omega) (by omega)) (lo 141 (by omega) (by omega) (by omega) (by omega)) (lo 143 (by omega) (by omega) (by omega) (by omega)), c5⟩
    unfold jTO zArr
    rw [ec, en, eR, hi ra k3.1 (by omega), hi rb' k4.1 (by omega)]
    exact k7
  · rw [h130 34 (by omega) (by omega)]
    exact b7
set_option maxHeartbeats 1000000 in
theorem w_im2 {L n : Nat} {S Sg : ZSt} {o ic : Nat} (hB : zBase Sg) (hS : zSh Sg) (hJ : jCore Sg) (hkp : zKp S Sg) (h0 : zc Sg 0 = 105) (hn0 : zn Sg 0 = L) (hu : zu Sg ≤ 87 + 40 * (n + 1)) (hz : zz Sg ≤ 17930 + 2000 * (n + 1)) (hr : zR Sg 104 ic = some o) (hic : ic < 3) (h10 : zI Sg 75 10 = nI ic) : zC m_St_copyFrom [.ref o, .ref 92] Sg (zback m_N_image 47 27 [some (.ref 75), some (.ref o)] [] (fun i1 l1 s1 S1 => zW 3 m_N_image i1 l1 s1 S1 (zTwoR S m_M_image [] (zSayP (zInv L (n + 1))))) (fun x S1 => zTwoR S m_M_image [] (zSayP (zInv L (n + 1))) (.inr x) S1)) := by
  have hB' := hB
  obtain ⟨-, -, -, -, -, ⟨jc, i1, i2, i3, i4, i5⟩, -, -, ⟨tg, g⟩, -, -⟩ := hB'
  have ej : jc = ic := nEq (by omega) (by omega) (i2.symm.trans h10)
  subst ej
  obtain ⟨-, rs, hio⟩ := i4 _ _ hr
  obtain ⟨t1, t2, t3⟩ := g.2.2.1 _ _ hr
  have ho := hio.1.1.1
  have hrr := hio.2
  have tr : ∀ k, k < 12 → k ≠ 3 → tg (rs k) = 3001 + 20 * jc + k := fun k hk hk3 => t3 k (rs k) hk (hrr k hk hk3).1
  have hb : zI Sg 92 3 = 0 ∨ zI Sg 92 3 = 1 := by
    obtain ⟨⟨-, -, -, d, -⟩, -⟩ := hJ
    obtain ⟨m, m1, m2, m3⟩ := d.1
    rw [d.2.1, m3]
    rcases (show m = 0 ∨ m = 1 by omega) with e | e
    · exact Or.inl (by rw [e]; rfl)
    · exact Or.inr (by rw [e]; rfl)
  have di : zDi o 92 rs rsO := ⟨by omega, fun k k' hk hk' h3 h3' e => by
    have a := tr k hk h3
    rw [e, tr k' hk' h3'] at a
    omega, fun k hk hk3 => by
    have b := rsO_b hk
    have := (hrr k hk hk3).2.1.1
    have a := tr k hk hk3
    exact ⟨fun e => by rw [e] at a; omega, by omega, by omega, fun k' hk' hk3' => by
      have := rsO_b hk'
      omega⟩⟩
  refine w_St_copyFrom hS hio.1.2 (hS.1 92 (by omega)) (fun k hk hk3 => ⟨(hrr k hk hk3).1, (hrr k hk hk3).2.2⟩) (rsO_t hS) di hb (fun S1 p => b_N_image_28 (p.sh hS) ?_)
  have hS1 := p.sh hS
  have fx : ∀ c, c < 162 → zI S1 c = zI Sg c := fun c hc => p.2.1 c (by omega) (fun k hk hk3 e => by have := (hrr k hk hk3).2.1.1; omega)
  rw [fx 75 (by omega), h10, nI_add]
  refine ⟨_, rfl, ⟨?_, ?_, ?_, hS1⟩, ?_⟩
  · rw [zI_ne _ _ (by omega), fx 0 (by omega)]
    exact hkp.1
  · show zc S1 0 = zc S 0
    rw [p.c]
    exact hkp.2.1
  · show zn S1 0 = zn S 0
    rw [p.n]
    exact hkp.2.2.1
  have q4 : zI (zsI S1 75 10 (nI (jc + 1))) 130 4 = nI jc := by
    rw [zI_ne _ _ (by omega), fx 130 (by omega)]
    exact i3
  refine b_M_image (S := zsI S1 75 10 (nI (jc + 1))) hS1 ⟨fun _ => ?_, fun h9 => absurd ?_ h9⟩
  · refine w_M_im11 (ic := jc) hic 225 0 (S := zsI (zsI S1 75 10 (nI (jc + 1))) 130 0 (nI 0)) hS1 ((zI_o (by omega)).trans q4) (by omega) ⟨rfl, fun _ _ => rfl, fun j => ?_⟩ (fun S3 p3 => ?_)
    · unfold imF
      rw [if_neg (by omega)]
    have f2 : (zsI S3 130 4 (nI (jc + 1))).2 = Sg.2 := p3.1.trans p.1
    have hS2 : zSh (zsI S3 130 4 (nI (jc + 1))) := zSh_of f2 hS
    have e1 : ∀ c, c ≠ 133 → c ≠ 130 → c ≠ 75 → zI (zsI S3 130 4 (nI (jc + 1))) c = zI S1 c := fun c x y z => by
      rw [zI_ne _ _ y, p3.2.1 c x, zI_ne _ _ y, zI_ne _ _ z]
    have e130 : ∀ j, j ≠ 0 → j ≠ 4 → zI (zsI S3 130 4 (nI (jc + 1))) 130 j = zI Sg 130 j := fun j x y => by
      rw [zI_o y, p3.2.1 130 (by omega), zI_o x, zI_ne _ _ (by omega), fx 130 (by omega)]
    have e75 : ∀ j, j ≠ 10 → zI (zsI S3 130 4 (nI (jc + 1))) 75 j = zI Sg 75 j := fun j x => by
      rw [zI_ne _ _ (by omega), p3.2.1 75 (by omega), zI_ne _ _ (by omega), zI_o x, fx 75 (by omega)]
    have e133 : ∀ j, zI (zsI S3 130 4 (nI (jc + 1))) 133 j = imF (zI Sg 132) (zI Sg 133) (225 * jc) 225 j := fun j => by
      rw [zI_ne _ _ (by omega), p3.2.2 j, zI_ne _ _ (by omega), zI_ne _ _ (by omega), zI_ne _ _ (by omega), zI_ne _ _ (by omega), fx 132 (by omega), fx 133 (by omega)]
    have q10 : zI (zsI S3 130 4 (nI (jc + 1))) 75 10 = nI (jc + 1) := by rw [zI_ne _ _ (by omega), p3.2.1 75 (by omega), zI_ne _ _ (by omega), zI_s]
    have q4' : zI (zsI S3 130 4 (nI (jc + 1))) 130 4 = nI (jc + 1) := zI_s
    have lo : ∀ c, c < 162 → c ≠ 133 → c ≠ 130 → c ≠ 75 → zI (zsI S3 130 4 (nI (jc + 1))) c = zI Sg c := fun c x y z w => (e1 c y z w).trans (fx c x)
    have hA : ∀ c, c ≠ 75 → c ≠ 130 → c ≠ 133 → ¬ (162 ≤ c ∧ 3000 + 20 * jc ≤ tg c ∧ tg c ≤ 3012 + 20 * jc) → zI (zsI S3 130 4 (nI (jc + 1))) c = zI Sg c := fun c x y z w => by
      rw [e1 c z y x]
      by_cases c1 : c < 162
      · exact fx c c1
      · refine p.2.1 c (fun e => w ?_) (fun k hk hk3 e => w ?_)
        · rw [e]
          omega
        · rw [e, tr k hk hk3] at w
          rw [e, tr k hk hk3]
          omega
    generalize zsI S3 130 4 (nI (jc + 1)) = S2 at *
    have eR : zR S2 = zR Sg := by show S2.2.2.1 = Sg.2.2.1; rw [f2]
    have en : zn S2 = zn Sg := by show S2.2.2.2.1 = Sg.2.2.2.1; rw [f2]
    have ec : zc S2 = zc Sg := by show S2.2.2.2.2.1 = Sg.2.2.2.2.1; rw [f2]
    have ex : zx S2 = zx Sg := by show S2.2.2.2.2.2.1 = Sg.2.2.2.2.2.1; rw [f2]
    have eu : zu S2 = zu Sg := by show S2.2.2.2.2.2.2.1 = Sg.2.2.2.2.2.2.1; rw [f2]
    have ez : zz S2 = zz Sg := by show S2.2.2.2.2.2.2.2 = Sg.2.2.2.2.2.2.2; rw [f2]
    have io : ∀ {o' rs'}, jIO Sg o' rs' → jIO S2 o' rs' := fun {o' rs'} h => by
      unfold jIO zDy zArr at h ⊢
      rw [eR, en, ec, ex]
      exact h
    have hJ2 : jCore S2 := jCore_cong (fun c hc => lo c (lCore_lt hc) (fun e => by rw [e] at hc; cases hc) (fun e => by rw [e] at hc; cases hc) (fun e => by rw [e] at hc; cases hc)) hJ
    have hI : jIms S2 := by
      refine ⟨jc + 1, by omega, q10, q4', fun i' o' ho' => ?_, fun i' hi' => ?_⟩
      · rw [eR] at ho'
        obtain ⟨a1, rs', a2⟩ := i4 i' o' ho'
        exact ⟨a1, rs', io a2⟩
      · by_cases e : i' = jc
        · subst e
          have row : ∀ k, k < 12 → k ≠ 3 → ∀ j, j < imL k → zI S2 (rs k) j = zI Sg (rsO k) j := fun k hk hk3 j hj => by
            have := (hrr k hk hk3).2.1.1
            rw [e1 _ (by omega) (by omega) (by omega)]
            exact p.2.2.2.2 k hk hk3 j hj
          refine ⟨o, rs, by rw [eR]; exact hr, io hio, hJ.1.mv (fun j hj => ?_) ?_ (row 0 (by omega) (by omega)) (row 1 (by omega) (by omega)) (row 2 (by omega) (by omega)) (row 4 (by omega) (by omega)) (row 5 (by omega) (by omega)) (row 6 (by omega) (by omega)) (row 7 (by omega) (by omega)) (row 8 (by omega) (by omega)) (row 9 (by omega) (by omega)) (row 10 (by omega) (by omega)) (row 11 (by omega) (by omega))⟩
          · rw [e133]
            unfold imF
            rw [if_pos (by omega), Nat.add_sub_cancel_left]
          · rw [e1 o (by omega) (by omega) (by omega), p.2.2.2.1, if_pos (by omega)]
        · obtain ⟨o', rs', a1, a2, a3⟩ := i5 i' (by omega)
          obtain ⟨y1, y2, y3⟩ := g.2.2.1 _ _ a1
          have row : ∀ k, k < 12 → k ≠ 3 → ∀ j, j < imL k → zI S2 (rs' k) j = zI Sg (rs' k) j := fun k hk hk3 j hj => by
            have d := (a2.2 k hk hk3).2.1.1
            have t := y3 k (rs' k) hk (a2.2 k hk hk3).1
            rw [hA _ (by omega) (by omega) (by omega) (fun h9 => by omega)]
          have d := a2.1.1.1
          refine ⟨o', rs', by rw [eR]; exact a1, io a2, a3.mv (fun j hj => ?_) ?_ (row 0 (by omega) (by omega)) (row 1 (by omega) (by omega)) (row 2 (by omega) (by omega)) (row 4 (by omega) (by omega)) (row 5 (by omega) (by omega)) (row 6 (by omega) (by omega)) (row 7 (by omega) (by omega)) (row 8 (by omega) (by omega)) (row 9 (by omega) (by omega)) (row 10 (by omega) (by omega)) (row 11 (by omega) (by omega))⟩
          · rw [e133]
            unfold imF
            rw [if_neg (by omega)]
          · rw [hA o' (by omega) (by omega) (by omega) (fun h9 => by omega)]
    exact ⟨_, rfl, rfl, hS2, hS2, hJ2, zIm.base (ic := jc) hB g f2 hA e75 e130 hI, by rw [ec]; exact h0, by rw [en]; exact hn0, by omega, by omega⟩
  · rw [q4]
    exact fun e => by
      have := nEq (a := jc) (b := 3) (by omega) (by omega) e
      omega
set_option maxHeartbeats 1000000 in
theorem s_image {L : Nat} : t_image (zInv L) := fun n S h => by
  have h' := h
  obtain ⟨hS, hJ, hB, h0, hn0, hu, hz⟩ := h'
  obtain ⟨ic, i1, i2, i3, i4, i5⟩ := h.2.2.1.2.2.2.2.2.1
  by_cases c3 : ic = 3
  · subst c3
    exact b_N_image hS ⟨fun h9 => absurd h9 (by rw [i2]; decide), fun _ => ⟨_, rfl, ⟨rfl, rfl, rfl, hS⟩, b_M_image hS ⟨fun h9 => absurd i3 h9, fun _ => ⟨_, rfl, rfl, hS, h.next zFK0 hS (jCore_cong (fun c hc => zI_ne _ _ (fun e => by rw [e] at hc; cases hc)) h.2.1) (Nat.le_succ _) (Nat.le_add_right _ _)⟩⟩⟩⟩
  have n104 : zn S 104 = 3 := hS.2.1 104 (by omega) (by omega)
  have hx : 162 ≤ zx S := hS.2.2.2
  refine b_N_image hS ⟨fun _ => ⟨hS.1 104 (by omega), by rw [i2, n104]; exact zin (by omega) (by omega), fun hn => ⟨va_up_self _ _ _, ?_⟩, fun r10 hr => ?_⟩, fun h9 => absurd (by rw [i2]; exact nI_lt (show ic < 3 by omega) (by omega)) h9⟩
  · have ex0 : zx (zNew S 3 0 12 (fun _ => 0)) = zx S + 1 := rfl
    have eu0 : zu (zNew S 3 0 12 (fun _ => 0)) = zu S + 1 := rfl
    have ez0 : zz (zNew S 3 0 12 (fun _ => 0)) = zz S + 12 := rfl
    refine w_St_init (S0 := S) (o := zx S) hS (zGr.rf.new hx) ⟨Nat.le_refl _, by omega⟩ (va_up_self _ _ _) (fun k => by show va_up (zR S) (zx S) (fun _ => none) (zx S) k = none; rw [va_up_self]) (fun S' S1 m e g => ?_)
    have hS' := g.sh hS
    have e10 : zI S' 75 10 = nI ic := by rw [(g.2.1 75 (by omega)).1]; exact i2
    have eR : zR S' = zR S1 := by show S'.2.2.1 = S1.2.2.1; rw [e]
    have en : zn S' = zn S1 := by show S'.2.2.2.1 = S1.2.2.2.1; rw [e]
    have ec : zc S' = zc S1 := by show S'.2.2.2.2.1 = S1.2.2.2.2.1; rw [e]
    have ex : zx S' = zx S1 := by show S'.2.2.2.2.2.1 = S1.2.2.2.2.2.1; rw [e]
    have eu : zu S' = zu S1 := by show S'.2.2.2.2.2.2.1 = S1.2.2.2.2.2.2.1; rw [e]
    have ez : zz S' = zz S1 := by show S'.2.2.2.2.2.2.2 = S1.2.2.2.2.2.2.2; rw [e]
    obtain ⟨-, m2, m3, m4, m5, m6, m7, m8⟩ := m
    have tn : zTr 104 ic = none := by
      rcases (show ic = 0 ∨ ic = 1 ∨ ic = 2 by omega) with x | x | x <;> rw [x] <;> decide
    have n104' : zn S' 104 = 3 := hS'.2.1 104 (by omega) (by omega)
    have c0 : zc S' (zx S) = 3 := by rw [ec]; exact m3
    refine b_N_image_17n hS' ?_
    rw [e10, zcl9 (by omega)]
    have cls : ∀ c, zx S ≤ c → c < zx S' → c = zx S ∨ ∃ j, j < 11 ∧ c = zx S + 1 + j := fun c x y => by
      by_cases z : c = zx S
      · exact Or.inl z
      · exact Or.inr ⟨c - (zx S + 1), by omega, by omega⟩
    have kfi : ∀ k, k < 12 → k ≠ 3 → ∃ j, j < 11 ∧ kfS j = k := fun k hk hk3 => by
      by_cases x : k < 3
      · exact ⟨k, by omega, by unfold kfS; rw [if_pos x]⟩
      · exact ⟨k - 1, by omega, by unfold kfS; rw [if_neg (by omega)]; omega⟩
    have base : zBase (zsR S' 104 ic (some (zx S))) := by
      refine zGr.base (tn := fun c => if c = zx S then 3000 + 20 * ic else 3001 + 20 * ic + kfS (c - (zx S + 1))) hB hS g (Or.inr rfl) ⟨fun x => by omega, fun _ => by omega⟩ ⟨Nat.le_refl _, by omega⟩ (fun c x y => ?_) (fun c k q x y z => ?_) (fun x => by omega) (fun _ => ⟨if_pos rfl, fun k q hk hq => ?_⟩) (fun _ => ?_) (fun x => by omega) (fun _ jc hj hj3 => ?_)
      · rcases cls c x y with z | ⟨j, z1, z2⟩
        · rw [z, c0]
          decide
        · rw [z2, ec, ← ex0, (m4 j z1).2.1]
          decide
      · rw [eR] at z
        rcases cls c x y with w | ⟨j, w1, w2⟩
        · rw [w] at z
          obtain ⟨j, a1, a2, a3⟩ := m5 k q z
          omega
        · rw [w2, ← ex0, m6 j w1 k] at z
          cases z
      · rw [eR] at hq
        obtain ⟨j, a1, a2, a3⟩ := m5 k q hq
        refine ⟨by omega, ?_⟩
        rw [if_neg (by omega), a3, ex0, Nat.add_sub_cancel_left, a2]
      · refine ⟨fun k => zx S + 1 + (if k < 3 then k else k - 1), ⟨⟨hx, by omega⟩, c0⟩, fun k hk hk3 => ?_⟩
        have hj : (if k < 3 then k else k - 1) < 11 := by split <;> omega
        have hkf : kfS (if k < 3 then k else k - 1) = k := by
          unfold kfS
          by_cases x : k < 3
          · rw [if_pos x, if_pos x]
          · rw [if_neg x, if_neg (by omega)]
            omega
        obtain ⟨a1, a2, a3⟩ := m4 _ hj
        have a3 : zn S1 (zx (zNew S 3 0 12 fun x => 0) + if k < 3 then k else k - 1) = imL (kfS (if k < 3 then k else k - 1)) := a3
        rw [hkf] at a1 a3
        exact ⟨by rw [eR, a1, ex0], ⟨by show 162 ≤ zx S + 1 + (if k < 3 then k else k - 1); omega, by show zx S + 1 + (if k < 3 then k else k - 1) < zx S'; omega⟩, by rw [ec, ← ex0]; exact a2, by rw [en, ← ex0]; exact a3⟩
      · have := nEq (a := ic) (b := jc) (by omega) (by omega) (i2.symm.trans hj)
        omega
    have hSg : zSh (zsR S' 104 ic (some (zx S))) := hS'.R tn
    refine ⟨tn, hS'.1 104 (by omega), c0, by rw [n104']; exact zin (by omega) (by omega), c0, w_im2 base hSg (jCore_cong (fun c hc => (g.2.1 c (by have := lCore_lt hc; omega)).1) hJ) ⟨(g.2.1 0 (by omega)).1, (g.2.1 0 (by omega)).2.2.2, (g.2.1 0 (by omega)).2.2.1, hSg⟩ ((g.2.1 0 (by omega)).2.2.2.trans h0) ((g.2.1 0 (by omega)).2.2.1.trans hn0) (by show zu S' ≤ _; omega) (by show zz S' ≤ _; omega) ?_ (by omega) e10⟩
    show va_up (zR S') 104 (va_up (zR S' 104) ic (some (zx S))) 104 ic = _
    rw [va_up_self, va_up_self]
  · rw [i2, zcl9 (by omega)] at hr
    obtain ⟨-, rs, a2⟩ := i4 _ _ hr
    exact ⟨a2.1.2, w_im2 hB hS hJ ⟨rfl, rfl, rfl, hS⟩ h0 hn0 (by omega) (by omega) hr (by omega) i2⟩
