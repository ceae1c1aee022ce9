/-! way: both, and what stays true -/
theorem wlp_S {b : Nat → Nat} {e p f m : Nat} {kd fa fb : Nat → Nat} (hp : p ≤ e) : wlp b e (f + 1) (tkS b e p) kd fa fb m = wlp b e (f + 1) p kd fa fb m := by
  obtain ⟨h1, h2, h3, h4, h5⟩ := tk_S (b := b) hp
  have hw : ∀ i, wac b e (tkS b e p) i = wac b e p i := fun i => by
    unfold wac
    rw [h2]
  rw [wlp_s, wlp_s, h1, tkS_tkS hp, h4]
  simp only [hw]
theorem w_N_way {len m wc : Nat} {b : Nat → Nat} {S : ZSt} {Q : ZOut → ZSt → Prop} (hS : zSh S) (hC : zCst S) (e1 : zI S 76 1 = nI len) (hl : len ≤ 400) (hm : m ≤ len) (hb : ∀ j, j < m → b j < 256 ∧ zI S 77 j = nI (b j)) (h6 : zI S 75 6 = nI wc) (hwc : wc ≤ 6)
    (full : wc = 6 → ∀ S', zJ [76] S S' → zI S' 76 1 = nI 0 → zI S' 76 8 = - nI 1 → Q (.inl (some (.int (- nI 1)))) S')
    (bad : wc < 6 → ∀ k t, wlp b m 25 0 (fun _ => 0) (fun _ => 0) (fun _ => 0) 0 = .inl (k, t) → ∀ S', zJ [76, 82, 83, 84, 85] S S' → zI S' 76 1 = nI 0 → zI S' 76 8 = nI t → Q (.inl (some (.int (nI k - nI 10)))) S')
    (ok : wc < 6 → ∀ kd fa fb n, wlp b m 25 0 (fun _ => 0) (fun _ => 0) (fun _ => 0) 0 = .inr (kd, fa, fb, n) → zWy n kd fa fb → ∀ Sx, zJ [76, 82, 83, 84, 85] S Sx → zI Sx 76 1 = nI 0 → zI Sx 76 8 = - nI 1 → ∀ S4, zAd Sx S4 n kd fa fb → Q (.inl (some (.int (nI wc)))) (zsI (zsR S4 90 wc (some (zx Sx))) 75 6 (nI (wc + 1)))) : zC m_N_way [.ref 75, .int (nI m)] S Q := by
  refine b_N_way hS ?_
  rw [e1]
  refine w_N_isNotV (by omega) hS (fun _ => b_N_way_7 hS (b_N_refuseIf hS ⟨fun _ => b_N_way_8 hS ?_, fun h9 => absurd rfl h9⟩)) (fun h9 => absurd rfl (h9 m hm))
  refine w_Ta_begin hS (by omega) hb (fun S1 j1 a1 a7 a8 x1 t1 => b_N_way_12 (j1.sh hS) ?_)
  have hS1 := j1.sh hS
  have e6 : zI S1 75 6 = nI wc := by
    rw [j1.2 75 rfl]
    exact h6
  rw [e6]
  refine ⟨fun h9 => ?_, fun h9 => full (Classical.byContradiction (fun z => h9 (nI_lt (by omega) (by omega)))) S1 j1 a1 a8⟩
  have hw6 : wc < 6 := (nI_ltI (by omega) (by omega)).mp h9
  refine w_WR_reads hS1 (hC.J j1 rfl) x1 t1 (fun k t hv S2 j2 c7 c8 => b_N_way_23 (j2.1.sh hS1) ⟨fun _ => b_Ta_faultAnswer (j2.1.sh hS1) (b_N_way_33 (j2.1.sh hS1) ?_), fun h8 => absurd rfl h8⟩) (fun kd fa fb n hv hy S2 j2 ac c8 => b_N_way_23 (j2.1.sh hS1) ⟨fun h8 => absurd h8 (by decide), fun _ => ?_⟩)
  · rw [c7]
    exact bad hw6 k t hv S2 (zJ.tr (l := [76, 82, 83, 84, 85]) ⟨j1.1, fun c hc => j1.2 c (zsub_of rfl c hc)⟩ j2.1) ((j2.2 1 (by omega)).trans a1) c8
  · have hS2 := j2.1.sh hS1
    have J2 : zJ [76, 82, 83, 84, 85] S S2 := zJ.tr (l := [76, 82, 83, 84, 85]) ⟨j1.1, fun c hc => j1.2 c (zsub_of rfl c hc)⟩ j2.1
    refine w_N_adopt hS2 (Or.inl rfl) (by rw [j2.1.2 75 rfl]; exact e6) hw6 hy.2.1 ac.1 ac.2 (fun S4 ad => b_N_way_29 ((ad.1.sh hS2).R (tn90 hw6)) (ok hw6 kd fa fb n hv hy S2 J2 ((j2.2 1 (by omega)).trans a1) (c8.trans a8) S4 ad))
theorem w_M_way {len m wc : Nat} {b : Nat → Nat} {T : ZSt} {Q : ZOut → ZSt → Prop} (hT : zSh T) (hC : zCst T) (e5 : zI T 130 5 = nI len) (hl : len ≤ 400) (hm : m ≤ len) (hb : ∀ j, j < m → b j < 256 ∧ zI T 134 j = nI (b j)) (h14 : zI T 130 14 = nI wc) (hwc : wc ≤ 6)
    (full : wc = 6 → ∀ S', zJ [130] T S' → (∀ j, zmem j lTs = false → zI S' 130 j = zI T 130 j) → zI S' 130 0 = nI 0 → zI S' 130 5 = nI 0 → zI S' 130 11 = - nI 1 → Q (.inl (some (.int (- nI 1)))) S')
    (bad : wc < 6 → ∀ k t, wlp b m 25 0 (fun _ => 0) (fun _ => 0) (fun _ => 0) 0 = .inl (k, t) → ∀ S', zJ [130, 136, 137, 138, 139] T S' → (∀ j, zmem j (14 :: lTs) = false → zI S' 130 j = zI T 130 j) → zI S' 130 14 = nI wc → zI S' 136 = zI T 136 → (∀ j, j < 24 * wc → zI S' 137 j = zI T 137 j ∧ zI S' 138 j = zI T 138 j ∧ zI S' 139 j = zI T 139 j) → zI S' 130 0 = nI 0 → zI S' 130 5 = nI 0 → zI S' 130 11 = nI t → Q (.inl (some (.int (nI k - nI 10)))) S')
    (ok : wc < 6 → ∀ kd fa fb n, wlp b m 25 0 (fun _ => 0) (fun _ => 0) (fun _ => 0) 0 = .inr (kd, fa, fb, n) → ∀ S', zJ [130, 136, 137, 138, 139] T S' → (∀ j, zmem j (14 :: lTs) = false → zI S' 130 j = zI T 130 j) → zI S' 130 14 = nI (wc + 1) → (∀ j, j ≠ wc → zI S' 136 j = zI T 136 j) → (∀ j, j < 24 * wc → zI S' 137 j = zI T 137 j ∧ zI S' 138 j = zI T 138 j ∧ zI S' 139 j = zI T 139 j) → zI S' 130 0 = nI 0 → zI S' 130 5 = nI 0 → zI S' 130 11 = - nI 1 → jWM S' wc n kd fa fb → Q (.inl (some (.int (nI wc)))) S') : zC m_M_way [.ref 130, .int (nI m)] T Q := by
  have hT0 : zSh (zsI T 130 0 (nI 0)) := hT
  obtain ⟨v0, v5, v6, v7, v8, v10, v11⟩ := zBg_v (T := T) (m := m)
  have hB : zSh (zBg T m) := zBg_j.sh hT
  have e14 : zI (zBg T m) 130 14 = nI wc := (zBg_k rfl).trans h14
  have hxB := zBg_x (T := T) (m := m) (by omega) hb
  have hCB : zCst (zBg T m) := hC.J zBg_j rfl
  have hfB : jFn (zBg T m) := v8
  have b136 : zI (zBg T m) 136 = zI T 136 := zBg_j.2 136 rfl
  have cv : ∀ {S' : ZSt}, zMw wc (zBg T m) S' → zJ [130, 136, 137, 138, 139] T S' ∧ (∀ j, zmem j (14 :: lTs) = false → zI S' 130 j = zI T 130 j) ∧ (∀ j, j < 24 * wc → zI S' 137 j = zI T 137 j ∧ zI S' 138 j = zI T 138 j ∧ zI S' 139 j = zI T 139 j) ∧ (∀ j, j ≠ wc → zI S' 136 j = zI T 136 j) ∧ zI S' 130 0 = nI 0 ∧ zI S' 130 5 = nI 0 := fun {S'} g => by
    refine ⟨zJ.tr (l := [130, 136, 137, 138, 139]) ⟨zBg_j.1, fun c hc => zBg_j.2 c (zsub_of rfl c hc)⟩ g.1, fun j hj => ?_, fun j hj => ?_, fun j hj => ?_, (g.2.1 0 rfl).trans v0, (g.2.1 5 rfl).trans v5⟩
    · rw [g.2.1 j (zsub_of rfl j hj)]
      exact zBg_k (zmemN hj).2
    · obtain ⟨g1, g2, g3⟩ := g.2.2.1 j hj
      rw [g1, g2, g3, zBg_j.2 137 rfl, zBg_j.2 138 rfl, zBg_j.2 139 rfl]
      exact ⟨rfl, rfl, rfl⟩
    · rw [g.2.2.2 j hj, zBg_j.2 136 rfl]
  refine b_M_way hT ?_
  rw [e5]
  refine ⟨fun h9 => absurd h9 (nI_pos (by omega)), fun _ => ⟨fun h9 => absurd h9 (nI_nlt (by omega) (by omega)), fun _ => w_M_may1 hT0 zI_s (b_M_way_16 hT0 ⟨fun _ => b_M_begins hT0 (b_M_way_22 hB ?_), fun h9 => absurd (by decide) h9⟩)⟩⟩
  show (¬ zI (zBg T m) 130 14 = nI 6 → _) ∧ (¬ (¬ zI (zBg T m) 130 14 = nI 6) → _)
  rw [e14]
  refine ⟨fun h9 => ?_, fun h9 => full (nEq (by omega) (by omega) (Classical.not_not.mp h9)) _ zBg_j (fun j hj => zBg_k hj) v0 v5 v11⟩
  have hw6 : wc < 6 := by
    have : wc ≠ 6 := fun z => h9 (by rw [z])
    omega
  refine w_M_isMore hB hxB (Nat.zero_le _) v7 (fun lt S1 j1 a1 => b_M_way_32 (j1.sh hB) ⟨fun _ => ?_, fun h8 => absurd (by decide) h8⟩) (fun eq S1 j1 a1 => b_M_way_32 (j1.sh hB) ⟨fun h8 => absurd rfl h8, fun _ => ?_⟩)
  · have J1 : zMw wc (zBg T m) S1 := j1.B.w
    refine w_M_wy38 hw6 25 0 (tkS b m 0) (fun _ => 0) (fun _ => 0) (fun _ => 0) (by omega) (by omega) (j1.sh hB) (hCB.J j1.1 rfl) (hxB.J j1) (tkS_le (Nat.zero_le _)).2 a1 (hfB.K j1) ((j1.2 14 (by omega)).trans e14) (fun k hk => absurd hk (Nat.not_lt_zero k)) (fun z => ?_) (fun k t hv S2 j2 c14 c136 c11 => ?_) (fun kd fa fb n hv S2 j2 c14 c11 w => ?_)
    · rw [(tk_S (Nat.zero_le m)).1] at z
      have := (tkK_0 (Nat.zero_le m)).mp z
      omega
    · rw [wlp_S (Nat.zero_le m)] at hv
      obtain ⟨g1, g2, g3, g4, g5, g6⟩ := cv (J1.tr j2)
      exact bad hw6 k t hv S2 g1 g2 c14 ((c136.trans (j1.1.2 136 rfl)).trans b136) g3 g5 g6 c11
    · rw [wlp_S (Nat.zero_le m)] at hv
      obtain ⟨g1, g2, g3, g4, g5, g6⟩ := cv (J1.tr j2)
      exact ok hw6 kd fa fb n hv S2 g1 g2 c14 g4 g3 g5 g6 c11 w
  · have e6 : zI S1 130 6 = nI m := (hxB.J j1).2.1
    rw [e6]
    have hv : wlp b m 25 0 (fun _ => 0) (fun _ => 0) (fun _ => 0) 0 = .inl (1, m) := by
      rw [wlp_s, if_pos ((tkK_0 (Nat.zero_le m)).mpr eq), if_pos rfl, eq]
    refine w_M_wrong (j1.sh hB) (hfB.K j1) (fun S3 j3 d3 => w_M_wy_bad (j3.sh (j1.sh hB)) ((j3.2 14 (by omega) (by omega) (by omega)).trans ((j1.2 14 (by omega)).trans e14)) hwc d3 (by omega) (by omega) ?_)
    have J3 : zMw wc (zBg T m) (zsI S3 130 11 (nI m)) := by
      have q := (j1.B.tr j3).w (wc := wc)
      exact ⟨q.1.I rfl, fun j hj => by rw [zI_o (fun e => by rw [e] at hj; cases hj)]; exact q.2.1 j hj, fun j hj => by rw [zI_ne _ _ (by omega), zI_ne _ _ (by omega), zI_ne _ _ (by omega)]; exact q.2.2.1 j hj, fun j hj => by rw [zI_ne _ _ (by omega)]; exact q.2.2.2 j hj⟩
    obtain ⟨g1, g2, g3, g4, g5, g6⟩ := cv J3
    refine bad hw6 1 m hv _ g1 g2 ?_ ?_ g3 g5 g6 zI_s
    · rw [zI_o (by omega), j3.2 14 (by omega) (by omega) (by omega), j1.2 14 (by omega)]
      exact e14
    · rw [zI_ne _ _ (by omega), j3.1.2 136 rfl, j1.1.2 136 rfl]
      exact b136
theorem y_way0 {v1 : Int32} {len : Nat} {S : ZSt} (hS : zSh S) (hD : zStD S) (hJ : jCore S) (e1 : zI S 76 1 = nI len) (e5 : zI S 130 5 = nI len) (hl : len ≤ 400) (hv : ∀ i, i ≤ len → v1 ≠ nI i) : zC m_L_way [.ref 75, .int v1, .ref 161] S (zTwoR S m_M_way [.int v1] (zAns4 S)) := by
  have hO : zC m_N_way [.ref 75, .int v1] S (zOb S (.inl (2, 1))) := by
    refine b_N_way hS ?_
    rw [e1]
    exact w_N_isNotV (by omega) hS (fun ⟨i, a1, a2⟩ => absurd a2 (hv i a1)) (fun _ => b_N_way_7 hS (b_N_refuseIf hS ⟨fun h9 => absurd h9 (by decide), fun _ => ⟨zinl rfl, zinl rfl, zOb_bad (r := 2) (kk := 1) hS⟩⟩))
  have hM : ∀ T, zSh T → zAt S T → zC m_M_way [.ref 130, .int v1] T (zMo T (.inl (2, 1))) := fun T hT tT => by
    have hT0 : zSh (zsI T 130 0 (nI 0)) := hT
    have e : zI T 130 5 = nI len := by
      rw [tT.at rfl]
      exact e5
    refine b_M_way hT ?_
    rw [e]
    have B : zcl 7 m_M_way m_M_may 25 15 [some (.ref 130), some (.int v1), none, none] [] [.ref 130, .int (nI 0), .int (nI 1), .int (nI 2)] (zsI T 130 0 (nI 0)) (zMo T (.inl (2, 1))) := w_M_may0 hT0 zI_s (by omega) (by omega) (b_M_way_16 hT0 ⟨fun h9 => absurd rfl h9, fun _ => zMo_bad (r := 2) (kk := 1) hT⟩)
    exact ⟨fun _ => B, fun h1 => ⟨fun _ => B, fun h2 => (by rcases zout hl hv with c | c; exact absurd c h1; exact absurd c h2)⟩⟩
  refine b_L_way hS (zC.imp hO (fun o S1 h => ?_))
  obtain ⟨rfl, Sc, h1, h2, rfl⟩ := h
  exact b_L_way_8 h2 ⟨_, rfl, h1.kpT hD h2, zC.imp (hM (zThr (zsI Sc 105 2 (zI Sc 105 2 + nI 1))) h2 (fun c hc h9 => (zI_ne (S := Sc) _ _ (by omega)).trans (h1.big hD c hc h9))) (fun o S2 h => by
    obtain ⟨b, e1, e2⟩ := zy_bad (r := 2) (kk := 1) hD hJ h1 (by omega) (by omega) h
    exact ⟨b, e1, e2.to⟩)⟩
/-- a text that is no way -/
theorem zWay_bad {L N wc : Nat} {S S1 S2 : ZSt} {r : Int64} (h : zInv L N S) (h6 : zI S 75 6 = nI wc) (hwc : wc ≤ 6) (j1 : zJ [76, 82, 83, 84, 85] S S1) (j2 : zJ [130, 136, 137, 138, 139] (zsL S1 161 0 r) S2) (f2 : ∀ j, zmem j (14 :: lTs) = false → zI S2 130 j = zI S 130 j) (f14 : zI S2 130 14 = nI wc) (f136 : zI S2 136 = zI S 136) (fr : ∀ j, j < 24 * wc → zI S2 137 j = zI S 137 j ∧ zI S2 138 j = zI S 138 j ∧ zI S2 139 j = zI S 139 j) (a1 : zI S1 76 1 = nI 0) (b5 : zI S2 130 5 = nI 0) (h8 : zI S1 76 8 = zI S2 130 11) : zSh S2 ∧ zL S2 161 0 = r ∧ zInv L (N + 1) S2 := by
  have hS1 := j1.sh h.1
  have hS2 : zSh S2 := j2.sh (show zSh (zsL S1 161 0 r) from hS1)
  have out : ∀ c, zmem c [76, 82, 83, 84, 85, 130, 136, 137, 138, 139] = false → zI S2 c = zI S c := fun c hc => (j2.2 c (zsub_of rfl c hc)).trans (j1.2 c (zsub_of rfl c hc))
  have e76 : zI S2 76 = zI S1 76 := j2.2 76 rfl
  have e75 : zI S2 75 = zI S 75 := out 75 rfl
  have q1 : S2.2 = (zsL S1 161 0 r).2 := j2.1
  have q2 : S2.2.2 = S.2.2 := by
    rw [q1]
    show S1.2.2 = S.2.2
    rw [j1.1]
  have u1 : zR S2 = zR S := by show S2.2.2.1 = S.2.2.1; rw [q2]
  have u2 : zn S2 = zn S := by show S2.2.2.2.1 = S.2.2.2.1; rw [q2]
  have u3 : zc S2 = zc S := by show S2.2.2.2.2.1 = S.2.2.2.2.1; rw [q2]
  have u4 : zx S2 = zx S := by show S2.2.2.2.2.2.1 = S.2.2.2.2.2.1; rw [q2]
  have k : zFV wc S S2 := ⟨fun x hx _ => out x (zsub_of (l := lC) rfl x hx), ⟨fun j hj => f2 j ?_, fun q _ => by rw [f136], fun q hq => fr q hq⟩, fun x _ => by rw [u1], fun h9 => by rw [u1]; exact h9, u2, u3, u4, fun j _ => by rw [e75]⟩
  · refine ⟨hS2, ?_, hS2, jCore_cong (fun c hc => out c (zdis_of rfl c hc)) h.2.1, k.base0 h.2.2.1 (jTape0 (by rw [e76]; exact a1) b5) (by rw [e76]; exact h8) h6 hwc ⟨by rw [e75]; exact h6, f14⟩, by rw [u3]; exact h.2.2.2.1, by rw [u2]; exact h.2.2.2.2.1, ?_, ?_⟩
    · show S2.2.1 161 0 = r
      rw [q1]
      rfl
    · have : zu S2 = zu S := by show S2.2.2.2.2.2.2.1 = S.2.2.2.2.2.2.1; rw [q2]
      have := h.2.2.2.2.2.1
      omega
    · have : zz S2 = zz S := by show S2.2.2.2.2.2.2.2 = S.2.2.2.2.2.2.2; rw [q2]
      have := h.2.2.2.2.2.2
      omega
  · rcases zmemT hj with e | hj
    · rw [e]
      rfl
    · rcases zmemT hj with e | hj
      · rw [e]
        rfl
      · rcases zmemT hj with e | hj
        · rw [e]
          rfl
        · rcases zmemT hj with e | hj
          · rw [e]
            rfl
          · cases hj
/-- the tape put back: what a new way touches doesn't lie there -/
theorem zAd.tp {Sx S4 : ZSt} {n : Nat} {kd fa fb : Nat → Nat} {g : Nat → Int32} (ad : zAd Sx S4 n kd fa fb) (hx : 162 ≤ zx Sx) : zAd (zwI Sx 76 g) (zwI S4 76 g) n kd fa fb := by
  obtain ⟨⟨g1, g2, g3, g4⟩, a2, a3, a4, a5, a6, a7⟩ := ad
  have i6 : ∀ {T : ZSt}, zI (zwI T 76 g) 76 = g := fun {T} => zWs
  have io : ∀ {T : ZSt} {c}, c ≠ 76 → zI (zwI T 76 g) c = zI T c := fun {T c} hc => zWo hc
  refine ⟨⟨g1, fun c hc => ⟨?_, (g2 c hc).2⟩, g3, g4⟩, a2, a3, a4, a5, a6, ?_⟩
  · by_cases e : c = 76
    · rw [e, i6, i6]
    · rw [io e, io e]
      exact (g2 c hc).1
  · have hxx : zx (zwI Sx 76 g) = zx Sx := rfl
    rw [hxx]
    unfold jWO zArr at a7 ⊢
    rw [io (by omega), io (by omega), io (by omega), io (by omega)]
    exact a7
