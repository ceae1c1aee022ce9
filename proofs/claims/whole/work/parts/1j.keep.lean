/-! keep: alike, and what stays true -/
theorem tn90 {wc : Nat} (h : wc < 6) : zTr 90 wc = none := by
  rcases (show wc = 0 ∨ wc = 1 ∨ wc = 2 ∨ wc = 3 ∨ wc = 4 ∨ wc = 5 by omega) with x | x | x | x | x | x <;> rw [x] <;> decide
theorem zH.fk {S S1 : ZSt} (h : zH lO S S1) (hD : zStD S) : zFK S S1 := by
  have u1 : zn S1 = zn S := by show S1.2.2.2.1 = S.2.2.2.1; rw [h.1]
  have u3 : zx S1 = zx S := by show S1.2.2.2.2.2.1 = S.2.2.2.2.2.1; rw [h.1]
  exact ⟨fun c hc hs => h.2.2.2 c (zsub_of rfl c hc) hs, ⟨fun j _ => by rw [h.at hD (c := 130) rfl], fun q _ => by rw [h.at hD (c := 136) rfl], fun q _ => ⟨by rw [h.at hD (c := 137) rfl], by rw [h.at hD (c := 138) rfl], by rw [h.at hD (c := 139) rfl]⟩⟩, h.2.1, h.2.2.1, u1, h.c, u3⟩
/-- the end of a call by which a way is added -/
theorem zAd.inv {L N wc l : Nat} {kd fa fb : Nat → Nat} {S Sx S4 S2 : ZSt} (h : zInv L N S) (k1 : zFT S Sx ∨ zFK S Sx) (hBx : zBase Sx) (sx : zSh Sx) (jx : ∀ c, zmem c lCore = true → zI Sx c = zI S c) (h0 : zc Sx 0 = zc S 0 ∧ zn Sx 0 = zn S 0 ∧ zu Sx ≤ zu S + 1 ∧ zz Sx ≤ zz S + 50) (ad : zAd Sx S4 l kd fa fb) (e6 : zI Sx 75 6 = nI wc) (hwc : wc < 6) (wy : zWy l kd fa fb) (f2 : S2.2.2 = (zsR S4 90 wc (some (zx Sx))).2.2) (out : ∀ c, zmem c lC = false → zI S2 c = zI S4 c) (core : ∀ c, zmem c lCore = true → zI S2 c = zI S4 c) (kv : zKV wc S4 S2) (k75 : ∀ j, j = 7 ∨ j = 10 → zI S2 75 j = zI S4 75 j) (q6 : zI S2 75 6 = nI (wc + 1)) (q14 : zI S2 130 14 = nI (wc + 1)) (jw : jWM S2 wc l kd fa fb) (ht : jTape S2) (hf : zI S2 76 8 = zI S2 130 11) : zInv L (N + 1) S2 := by
  have hx : 162 ≤ zx Sx := sx.2.2.2
  have hB := zAd.base hBx sx ad e6 hwc
  obtain ⟨g, a2, a3, a4, a5, a6, a7⟩ := ad
  have hSg : zSh (zsR S4 90 wc (some (zx Sx))) := (g.sh sx).R (tn90 hwc)
  have eR : zR S2 = zR (zsR S4 90 wc (some (zx Sx))) := by show S2.2.2.1 = (zsR S4 90 wc (some (zx Sx))).2.2.1; rw [f2]
  have en : zn S2 = zn S4 := by show S2.2.2.2.1 = (zsR S4 90 wc (some (zx Sx))).2.2.2.1; rw [f2]
  have ec : zc S2 = zc S4 := by show S2.2.2.2.2.1 = (zsR S4 90 wc (some (zx Sx))).2.2.2.2.1; rw [f2]
  have ex : zx S2 = zx S4 := by show S2.2.2.2.2.2.1 = (zsR S4 90 wc (some (zx Sx))).2.2.2.2.2.1; rw [f2]
  have eu : zu S2 = zu S4 := by show S2.2.2.2.2.2.2.1 = (zsR S4 90 wc (some (zx Sx))).2.2.2.2.2.2.1; rw [f2]
  have ez : zz S2 = zz S4 := by show S2.2.2.2.2.2.2.2 = (zsR S4 90 wc (some (zx Sx))).2.2.2.2.2.2.2; rw [f2]
  have hS2 : zSh S2 := zSh_same hSg eR en ec ex
  have k : zFV wc (zsR S4 90 wc (some (zx Sx))) S2 := ⟨fun c hc _ => out c hc, kv, fun c _ => by rw [eR], fun h9 => by rw [eR]; exact h9, en, ec, ex, k75⟩
  have nw : ∃ o ra rb rc n kd fa fb, zR S2 90 wc = some o ∧ (zDy S2 o ∧ zDy S2 ra ∧ zDy S2 rb ∧ zDy S2 rc) ∧ zWy n kd fa fb ∧ jWO S2 o ra rb rc n kd fa fb ∧ jWM S2 wc n kd fa fb := by
    have big : ∀ c, 162 ≤ c → zI S2 c = zI S4 c := fun c hc => out c (zmem_big (b := 162) rfl hc)
    refine ⟨zx Sx, zx Sx + 1, zx Sx + 2, zx Sx + 3, l, kd, fa, fb, ?_, ⟨⟨hx, by omega⟩, ⟨by omega, by omega⟩, ⟨by omega, by omega⟩, ⟨by omega, by omega⟩⟩, wy, ?_, jw⟩
    · rw [eR]
      show va_up (zR S4) 90 (va_up (zR S4 90) wc (some (zx Sx))) 90 wc = _
      rw [va_up_self, va_up_self]
    · have er : zR S2 (zx Sx) = zR S4 (zx Sx) := by
        rw [eR]
        exact zup_ne (by omega)
      unfold jWO zArr
      rw [ec, en, er, big _ hx, big (zx Sx + 1) (by omega), big (zx Sx + 2) (by omega), big (zx Sx + 3) (by omega)]
      exact a7
  obtain ⟨-, hJ, -, c0, n0, hu, hz⟩ := h
  obtain ⟨x1, x2, x3, x4⟩ := h0
  have o0 := g.2.1 0 (by omega)
  refine ⟨hS2, jCore_cong (fun c hc => ?_) hJ, k.base hB ht hf ((g.2.1 75 (by omega)).1 ▸ e6) hwc ⟨q6, q14, nw⟩, ?_, ?_, by omega, by omega⟩
  · rw [core c hc, (g.2.1 c (by have := lCore_lt hc; omega)).1]
    exact jx c hc
  · rw [ec, o0.2.2.2, x1]
    exact c0
  · rw [en, o0.2.2.1, x2]
    exact n0
set_option maxHeartbeats 4000000 in
theorem s_keep {L : Nat} : t_keep (zInv L) := fun N S v1 v2 v3 v4 v5 h => by
  have hS := h.1
  have hD := h.D
  have hJ := h.2.1
  have h34 := h.k
  obtain ⟨tc, htc, e7, e15, hT⟩ := h.T
  obtain ⟨wc, hwc, e6, e14, hW⟩ := h.W
  have t15 : ∀ {T}, zAt S T → zI (zsI T 130 0 (nI 0)) 130 15 = nI tc := fun {T} tT => by rw [zI_o (by omega), tT.at rfl]; exact e15
  have t14 : ∀ {T}, zAt S T → zI (zsI T 130 0 (nI 0)) 130 14 = nI wc := fun {T} tT => by rw [zI_o (by omega), tT.at rfl]; exact e14
  rcases zpick tc v1 with hy | ⟨t, ht, rfl⟩
  · exact zC.imp (y_keep (res := .inl (1, 1)) hS hD hJ (fun r kk e => by cases e; omega) (b_N_keep hS (w_N_theTask0 hS e7 htc hy (tN hT) (zOb_bad (r := 1) (kk := 1) hS))) (fun T hT' tT => b_M_keep hT' (b_M_mayFind hT' (w_M_isTask0 (S := zsI T 130 0 (nI 0)) hT' rfl (t15 tT) htc (by omega) hy (b_M_mayFind_4 hT' ⟨fun _ => ⟨rfl, b_M_keep_11 hT' ⟨fun h9 => absurd (by decide) h9, fun _ => zMo_bad (r := 1) (kk := 1) hT'⟩⟩, fun h9 => absurd (by decide) h9⟩))))) (fun o S1 r => r.imp (fun kk b S2 a => zAns4.P h a))
  obtain ⟨o2, cs, ho2, hOT, hTM⟩ := hT t ht
  obtain ⟨x0, x1, x2, x3, x4, x5, hf, hg⟩ := hJ.1.1.vl
  have vT : ∀ {T : ZSt}, zAt S T → zVl (zI (zsI T 130 0 (nI 0)) 132) x0 x1 x2 x3 x4 x5 := fun {T} tT => by
    show zVl (zI T 132) x0 x1 x2 x3 x4 x5
    rw [tT.at rfl]
    exact hf
  have g2 := hg.2.2.1
  have OA : ∀ {Q : ZOut → ZSt → Prop}, zW 7 m_N_keep 3 [some (.ref 75), some (.int (nI t)), some (.int v2), some (.int v3), some (.int v4), some (.int v5), none] [.ref o2] S Q → zC m_N_keep [.ref 75, .int (nI t), .int v2, .int v3, .int v4, .int v5] S Q := fun {Q} g => b_N_keep hS (w_N_theTask1 hS e7 htc ht ho2 (tN hT) g)
  have MA : ∀ {T : ZSt} {Q : ZOut → ZSt → Prop}, zSh T → zAt S T → (zQu v2 v3 v4 v5 x0 x2 → zW 6 m_M_keep 11 [some (.ref 130), some (.int (nI t)), some (.int v2), some (.int v3), some (.int v4), some (.int v5), none] [.int (nI 1)] (zsI T 130 0 (nI 0)) Q) → (¬ zQu v2 v3 v4 v5 x0 x2 → zW 6 m_M_keep 11 [some (.ref 130), some (.int (nI t)), some (.int v2), some (.int v3), some (.int v4), some (.int v5), none] [.int (nI 0)] (zsI (zsI (zsI T 130 0 (nI 0)) 130 0 (nI 2)) 131 2 (zI (zsI T 130 0 (nI 0)) 131 2 + nI 1)) Q) → zC m_M_keep [.ref 130, .int (nI t), .int v2, .int v3, .int v4, .int v5] T Q := fun {T Q} hT' tT ok bad => b_M_keep hT' (b_M_mayFind hT' (w_M_isTask1 (S := zsI T 130 0 (nI 0)) hT' rfl (t15 tT) htc (by omega) ht (b_M_mayFind_4 hT' ⟨fun h9 => absurd h9 (by decide), fun _ => w_M_mF (S := zsI T 130 0 (nI 0)) hT' (vT tT).1.1 hf.1.2.2 (vT tT).2.2.1.1 hf.2.2.1.2.2 rfl (fun q => b_M_mayFind_49 hT' ⟨fun h9 => absurd h9 (by decide), fun _ => ⟨rfl, ok q.1⟩⟩) (fun q => b_M_mayFind_49 hT' ⟨fun _ => ⟨rfl, bad (fun z => q ⟨z, 0, Nat.le_refl _, by omega, rfl⟩)⟩, fun h9 => absurd (by decide) h9⟩)⟩)))
  by_cases hq : zQu v2 v3 v4 v5 x0 x2
  case neg =>
    exact zC.imp (y_keep (res := .inl (2, 2)) hS hD hJ (fun r kk e => by cases e; omega) (OA (b_N_keep_3 hS (w_N_isNoQuest hS hg.1.1 hg.1.2.2 g2.1 g2.2.2 (fun q => absurd q hq) (fun _ => b_N_keep_11 hS (b_N_refuseIf hS ⟨fun h9 => absurd h9 (by decide), fun _ => ⟨zinl rfl, zinl rfl, zOb_bad (r := 2) (kk := 2) hS⟩⟩))))) (fun T hT' tT => MA hT' tT (fun h9 => absurd h9 hq) (fun _ => b_M_keep_11 hT' ⟨fun h9 => absurd (by decide) h9, fun _ => zMo_bad (r := 2) (kk := 2) hT'⟩))) (fun o S1 r => r.imp (fun kk b S2 a => zAns4.P h a))
  have hq' := hq
  obtain ⟨⟨m, n, m1, m2, m3, n1, rfl, rfl⟩, ⟨k, d1, d2, d3, rfl⟩, ⟨most, c1, c2, rfl⟩⟩ := hq
  have OC : ∀ {Q : ZOut → ZSt → Prop}, zW 7 m_N_keep 12 [some (.ref 75), some (.int (nI t)), some (.int (nI m)), some (.int (nI n)), some (.int (nI k)), some (.int (nI most)), some (.ref o2)] [] S Q → zC m_N_keep [.ref 75, .int (nI t), .int (nI m), .int (nI n), .int (nI k), .int (nI most)] S Q := fun {Q} g => OA (b_N_keep_3 hS (w_N_isNoQuest hS hg.1.1 hg.1.2.2 g2.1 g2.2.2 (fun _ => b_N_keep_11 hS (b_N_refuseIf hS ⟨fun _ => g, fun h9 => absurd (by decide) h9⟩)) (fun h9 => absurd hq' h9)))
  by_cases c6 : wc = 6
  · exact zC.imp (y_keep (res := .inr (- nI 1)) hS hD hJ (fun r kk e => by cases e) (OC (b_N_keep_12 hS ⟨fun h9 => absurd h9 (by rw [e6, c6]; decide), fun _ => ⟨rfl, zH.rf, hS⟩⟩)) (fun T hT' tT => MA hT' tT (fun _ => b_M_keep_11 hT' ⟨fun _ => ⟨fun h9 => absurd ((t14 tT).trans (by rw [c6])) h9, fun _ => ⟨rfl, zH0, hT', rfl, zKM0, zI_s⟩⟩, fun h9 => absurd (by decide) h9⟩) (fun h9 => absurd hq' h9))) (fun o S1 r => r.imp (fun kk b S2 a => zAns4.P h a))
  have hwc6 : wc < 6 := by omega
  have h01 := hg.1.2.1
  have h02 := hg.1.2.2
  obtain ⟨H, eH⟩ : ∃ H, H = if x0 < 3 then x0 else 3 := ⟨_, rfl⟩
  have hH : 1 ≤ H ∧ H ≤ 3 := by rw [eH]; split <;> omega
  have lt6 : zI S 75 6 < nI 6 := by rw [e6]; exact nI_lt hwc6 (by omega)
  have ne6 : ∀ {T}, zAt S T → ¬ zI (zsI T 130 0 (nI 0)) 130 14 = nI 6 := fun {T} tT e => c6 (nEq (by omega) (by omega) ((t14 tT).symm.trans e))
  rcases hr : (skL H x3 x5 x4 cs m n most k 1 0).1 with _ | ⟨l, q⟩
  · refine zC.imp (y_keep (res := .inr (- nI 2)) hS hD hJ (fun r kk e => by cases e) (OC (b_N_keep_12 hS ⟨fun _ => w_Tr_seek hH h02 eH hg.2.2.2.1.2 hg.2.2.2.2.2.2 hg.2.2.2.2.1.2 (by omega) (by omega) c2 d2 hS hD hOT hg.1.1 hg.2.2.2.1.1 hg.2.2.2.2.1.1 hg.2.2.2.2.2.1 (fun l q hl => by rw [hr] at hl; cases hl) (fun _ S' g' s' e' => b_N_keep_29 s' ⟨fun h9 => absurd rfl h9, fun _ => ⟨rfl, g', s'⟩⟩), fun h9 => absurd lt6 h9⟩)) (fun T hT' tT => MA hT' tT (fun _ => b_M_keep_11 hT' ⟨fun _ => ⟨fun _ => ?_, fun h9 => absurd (ne6 tT) h9⟩, fun h9 => absurd (by decide) h9⟩) (fun h9 => absurd hq' h9))) (fun o S1 r => r.imp (fun kk b S2 a => zAns4.P h a))
    have hv := vT tT
    exact w_M_finds (S := zsI T 130 0 (nI 0)) hH h02 eH hv.2.2.2.1.2 hv.2.2.2.2.2.2 hv.2.2.2.2.1.2 (by omega) (by omega) c2 d2 (by omega) hOT.1 hT' hv.1.1 hv.2.2.2.1.1 hv.2.2.2.2.1.1 hv.2.2.2.2.2.1 (by rw [zI_o (by omega), tT.at rfl]; exact h34) ((hTM.T tT).cg rfl rfl rfl rfl) (fun l q hl => by rw [hr] at hl; cases hl) (fun hl S' g' a44 a45 => b_M_keep_27 (g'.sh hT') ⟨fun h9 => absurd a44 h9, fun _ => ⟨rfl, zH0.tr (g'.1.hM rfl), g'.sh hT', g'.1.l161, zKM0.tr g'.2.1, g'.2.2.trans zI_s⟩⟩)
  obtain ⟨hl1, hl2⟩ := skL_at (acts := k) k 1 0 (by omega) (by omega) (Nat.zero_le _) hr
  obtain ⟨hok, hL⟩ := chkL_at hH (show 1 ≤ l ∧ l ≤ 3 by omega) hg.2.2.2.1.2 hg.2.2.2.2.2.2 hg.2.2.2.2.1.2
  have hO : zC m_N_keep [.ref 75, .int (nI t), .int (nI m), .int (nI n), .int (nI k), .int (nI most)] S (fun o S1 => ∃ Sx S4, o = .inl (some (.int (nI wc))) ∧ zH lO S Sx ∧ zSh Sx ∧ (∀ j, j < l → q j < (letF H l x3 x5 x4).length) ∧ zAd Sx S4 l (pK (letF H l x3 x5 x4) q) (pA (letF H l x3 x5 x4) q) (pB (letF H l x3 x5 x4) q) ∧ S1 = zsI (zsR S4 90 wc (some (zx Sx))) 75 6 (nI (wc + 1))) := by
    refine OC (b_N_keep_12 hS ⟨fun _ => w_Tr_seek hH h02 eH hg.2.2.2.1.2 hg.2.2.2.2.2.2 hg.2.2.2.2.1.2 (by omega) (by omega) c2 d2 hS hD hOT hg.1.1 hg.2.2.2.1.1 hg.2.2.2.2.1.1 hg.2.2.2.2.2.1 (fun l' q' hl S' g' s' jl jp e' => ?_) (fun hl => by rw [hr] at hl; cases hl), fun h9 => absurd lt6 h9⟩)
    rw [hr] at hl
    cases hl
    exact b_N_keep_29 s' ⟨fun _ => w_N_adopt s' (Or.inr rfl) (by rw [g'.at hD (c := 75) rfl]; exact e6) hwc6 (by omega) jp.1 (fun j hj => (jp.2 j hj).2.2) (fun S4 ad => b_N_keep_37 ((ad.1.sh s').R (tn90 hwc6)) ⟨S', S4, rfl, g', s', fun j hj => (jp.2 j hj).1, ad, rfl⟩), fun h9 => absurd (by decide) h9⟩
  refine b_L_keep hS (zC.imp hO (fun o S1 hh => ?_))
  obtain ⟨Sx, S4, rfl, gx, sx, hpk, ad, rfl⟩ := hh
  have hx : 162 ≤ zx Sx := sx.2.2.2
  have hSg : zSh (zsR S4 90 wc (some (zx Sx))) := (ad.1.sh sx).R (tn90 hwc6)
  have o4 : ∀ c, c < 162 → zI S4 c = zI Sx c := fun c hc => (ad.1.2.1 c (by omega)).1
  have tT : zAt S (zsL (zsI (zsR S4 90 wc (some (zx Sx))) 75 6 (nI (wc + 1))) 161 0 (nI wc).toInt64) := fun c hc h9 => by
    have e : zI (zsL (zsI (zsR S4 90 wc (some (zx Sx))) 75 6 (nI (wc + 1))) 161 0 (nI wc).toInt64) c = zI S4 c := zI_ne (S := zsR S4 90 wc (some (zx Sx))) _ _ (by omega)
    rw [e, o4 c h9]
    exact gx.big hD c hc h9
  have T4 : ∀ c, c ≠ 75 → zI (zsL (zsI (zsR S4 90 wc (some (zx Sx))) 75 6 (nI (wc + 1))) 161 0 (nI wc).toInt64) c = zI S4 c := fun c hc => zI_ne (S := zsR S4 90 wc (some (zx Sx))) _ _ hc
  have kp : zKp S (zsL (zsI (zsR S4 90 wc (some (zx Sx))) 75 6 (nI (wc + 1))) 161 0 (nI wc).toInt64) := by
    refine ⟨?_, ?_, ?_, hSg⟩
    · rw [T4 0 (by omega), o4 0 (by omega), gx.at hD (c := 0) rfl]
    · exact (ad.1.2.1 0 (by omega)).2.2.2.trans (by rw [gx.c])
    · exact (ad.1.2.1 0 (by omega)).2.2.1.trans (by rw [(gx.fk hD).2.2.2.2.1])
  have hv := vT tT
  refine b_L_keep_9 hSg ⟨zinl rfl, _, rfl, kp, MA hSg tT (fun _ => b_M_keep_11 hSg ⟨fun _ => ⟨fun _ => ?_, fun h9 => absurd (ne6 tT) h9⟩, fun h9 => absurd (by decide) h9⟩) (fun h9 => absurd hq' h9)⟩
  refine w_M_finds (S := zsI (zsL (zsI (zsR S4 90 wc (some (zx Sx))) 75 6 (nI (wc + 1))) 161 0 (nI wc).toInt64) 130 0 (nI 0)) hH h02 eH hv.2.2.2.1.2 hv.2.2.2.2.2.2 hv.2.2.2.2.1.2 (by omega) (by omega) c2 d2 (by omega) hOT.1 hSg hv.1.1 hv.2.2.2.1.1 hv.2.2.2.2.1.1 hv.2.2.2.2.2.1 (by rw [zI_o (by omega), tT.at rfl]; exact h34) ((hTM.T tT).cg rfl rfl rfl rfl) (fun l' q' hl S' g' a44 a45 a46 fd => ?_) (fun hl => by rw [hr] at hl; cases hl)
  rw [hr] at hl
  cases hl
  have hS' : zSh S' := g'.sh hSg
  refine b_M_keep_27 hS' ⟨fun _ => w_M_k35 (S0 := S') hwc6 (by omega) l 0 hS' (by omega) zJ.rf (fun j _ => ⟨rfl, rfl, rfl⟩) ((g'.2.1.1 14 rfl).trans (t14 tT)) a44 fd (fun j hj => by omega) (fun S2 j2 k130 k136 kw k14 jw => ?_), fun h9 => absurd (by rw [a44]; exact zneq1 (by omega)) h9⟩
  have f1 : S2.2.2 = S'.2.2 := by rw [j2.1]
  have f0 : S'.2.2 = (zsR S4 90 wc (some (zx Sx))).2.2 := by
    rw [g'.1.1]
    rfl
  have f2 : S2.2.2 = (zsR S4 90 wc (some (zx Sx))).2.2 := f1.trans f0
  have e2 : ∀ c, zmem c lIX = false → c ≠ 75 → zI S2 c = zI S4 c := fun c hc h75 => by
    have n130 : c ≠ 130 := fun e => (by rw [e] at hc; cases hc)
    rw [j2.2 c (zsub_of rfl c hc), g'.1.2 c hc, zI_ne _ _ n130, T4 c h75]
  have e130 : ∀ j, zmem j zKeys = true → j ≠ 14 → zI S2 130 j = zI S4 130 j := fun j hj h14 => by
    rw [k130 j h14, g'.2.1.1 j hj, zI_o (by have := zkey hj; omega), T4 130 (by omega)]
  have e75 : ∀ j, zI S2 75 j = zI (zsI (zsR S4 90 wc (some (zx Sx))) 75 6 (nI (wc + 1))) 75 j := fun j => by
    rw [j2.2 75 rfl, g'.1.2 75 rfl, zI_ne _ _ (by omega)]
    rfl
  have gk := gx.fk hD
  have hBx : zBase Sx := gk.base h.2.2.1
  have ux : zu Sx = zu S := by show Sx.2.2.2.2.2.2.1 = S.2.2.2.2.2.2.1; rw [gx.1]
  have zx' : zz Sx = zz S := by show Sx.2.2.2.2.2.2.2 = S.2.2.2.2.2.2.2; rw [gx.1]
  have sub1 : ∀ c, zmem c lC = false → zmem c lIX = false := zsub_of rfl
  have inv : zInv L (N + 1) S2 := by
    refine zAd.inv h (Or.inr gk) hBx sx (fun c hc => gx.coreO hD hc) ⟨by rw [gx.c], by rw [gk.2.2.2.2.1], by omega, by omega⟩ ad (by rw [gx.at hD (c := 75) rfl]; exact e6) hwc6 (zWy_p hok (by omega) hpk) f2 (fun c hc => e2 c (sub1 c hc) (fun e => by rw [e] at hc; cases hc)) (fun c hc => e2 c (zdis_of rfl c hc) (fun e => by rw [e] at hc; cases hc)) ⟨fun j hj => ?_, fun j hj => ?_, fun j hj => ?_⟩ (fun j hj => ?_) ?_ k14 jw ?_ ?_
    · refine e130 j ?_ (fun e => by rw [e] at hj; cases hj)
      cases hb : zmem j zKeys with
      | true => rfl
      | false =>
        rw [zsub_of (l := zKeys) (l1 := [4, 15, 20, 34]) rfl j hb] at hj
        cases hj
    · rw [k136 j (by omega), g'.2.1.2.1 j (by omega), zI_ne _ _ (by omega), T4 136 (by omega)]
    · obtain ⟨y1, y2, y3⟩ := kw j hj
      obtain ⟨z1, z2, z3⟩ := g'.2.1.2.2 j (by omega)
      rw [y1, y2, y3, z1, z2, z3, zI_ne _ _ (by omega), zI_ne _ _ (by omega), zI_ne _ _ (by omega), T4 137 (by omega), T4 138 (by omega), T4 139 (by omega)]
      exact ⟨rfl, rfl, rfl⟩
    · rw [e75 j, zI_o (by omega)]
      rfl
    · rw [e75 6, zI_s]
    · have ht := hBx.2.1
      unfold jTape at ht ⊢
      rw [e2 76 rfl (by omega), e2 77 rfl (by omega), e2 134 rfl (by omega), e130 5 rfl (by omega), o4 76 (by omega), o4 77 (by omega), o4 134 (by omega), o4 130 (by omega)]
      exact ht
    · rw [e2 76 rfl (by omega), e130 11 rfl (by omega), o4 76 (by omega), o4 130 (by omega)]
      exact hBx.2.2.1
  refine ⟨_, rfl, nI wc, rfl, ?_, fun _ => ?_, inv.1, inv⟩
  · rw [k130 0 (by omega)]
    exact g'.2.2.trans zI_s
  · rw [j2.l161, g'.1.l161]
    rfl
