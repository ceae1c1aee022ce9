/-! task, the reference's side whole -/
theorem w_M_task {len m tc st : Nat} {b : Nat → Nat} {T : ZSt} {Q : ZOut → ZSt → Prop} (hT : zSh T) (hC : zCst T) (e5 : zI T 130 5 = nI len) (hl : len ≤ 400) (hm : m ≤ len) (hb : ∀ j, j < m → b j < 256 ∧ zI T 134 j = nI (b j)) (h15 : zI T 130 15 = nI tc) (htc : tc ≤ 6) (h20 : zI T 130 20 = nI st) (hst : st ≤ 400 * tc)
    (full : tc = 6 → ∀ S', zJ [130] T S' → (∀ j, zmem j lTs = false → zI S' 130 j = zI T 130 j) → zI S' 130 0 = nI 0 → zI S' 130 5 = nI 0 → zI S' 130 11 = - nI 1 → Q (.inl (some (.int (- nI 1)))) S')
    (bad : tc < 6 → ∀ k t, tlp b m 13 0 [] = .inl (k, t) → ∀ S', zJ [130, 140, 141, 142, 143] T S' → (∀ j, zmem j (15 :: 20 :: lTs) = false → zI S' 130 j = zI T 130 j) → zI S' 130 15 = nI tc → zI S' 130 20 = nI st → zI S' 142 = zI T 142 → (∀ j, j < st → zI S' 140 j = zI T 140 j ∧ zI S' 141 j = zI T 141 j) → (∀ j, j < 13 * tc → zI S' 143 j = zI T 143 j) → zI S' 130 0 = nI 0 → zI S' 130 5 = nI 0 → zI S' 130 11 = nI t → Q (.inl (some (.int (nI k - nI 10)))) S')
    (ok : tc < 6 → ∀ cs, tlp b m 13 0 [] = .inr cs → ∀ S', zJ [130, 140, 141, 142, 143] T S' → (∀ j, zmem j (15 :: 20 :: lTs) = false → zI S' 130 j = zI T 130 j) → zI S' 130 15 = nI (tc + 1) → zI S' 130 20 = nI (st + totl cs) → (∀ j, j ≠ tc → zI S' 142 j = zI T 142 j) → (∀ j, j < st → zI S' 140 j = zI T 140 j ∧ zI S' 141 j = zI T 141 j) → (∀ j, j < 13 * tc → zI S' 143 j = zI T 143 j) → zI S' 130 0 = nI 0 → zI S' 130 5 = nI 0 → zI S' 130 11 = - nI 1 → zI S' 142 tc = nI cs.length → cdM S' tc 0 st cs → Q (.inl (some (.int (nI tc)))) S') : zC m_M_task [.ref 130, .int (nI m)] T Q := by
  have hT0 : zSh (zsI T 130 0 (nI 0)) := hT
  obtain ⟨v0, v5, v6, v7, v8, v10, v11⟩ := zBg_v (T := T) (m := m)
  have hB : zSh (zBg T m) := zBg_j.sh hT
  have e15 : zI (zBg T m) 130 15 = nI tc := (zBg_k rfl).trans h15
  have e20 : zI (zBg T m) 130 20 = nI st := (zBg_k rfl).trans h20
  have hxB := zBg_x (T := T) (m := m) (by omega) hb
  have hCB : zCst (zBg T m) := hC.J zBg_j rfl
  have hfB : jFn (zBg T m) := v8
  have b142 : zI (zBg T m) 142 = zI T 142 := zBg_j.2 142 rfl
  have cv : ∀ {S' : ZSt}, zTm tc st (zBg T m) S' → zJ [130, 140, 141, 142, 143] T S' ∧ (∀ j, zmem j (15 :: 20 :: lTs) = false → zI S' 130 j = zI T 130 j) ∧ (∀ j, j < st → zI S' 140 j = zI T 140 j ∧ zI S' 141 j = zI T 141 j) ∧ (∀ j, j < 13 * tc → zI S' 143 j = zI T 143 j) ∧ (∀ j, j ≠ tc → zI S' 142 j = zI T 142 j) ∧ zI S' 130 0 = nI 0 ∧ zI S' 130 5 = nI 0 := fun {S'} g => by
    refine ⟨zJ.tr (l := [130, 140, 141, 142, 143]) ⟨zBg_j.1, fun c hc => zBg_j.2 c (zsub_of rfl c hc)⟩ g.1, fun j hj => ?_, fun j hj => ?_, fun j hj => ?_, fun j hj => ?_, (g.2.1 0 rfl).trans v0, (g.2.1 5 rfl).trans v5⟩
    · rw [g.2.1 j (zsub_of rfl j hj)]
      exact zBg_k (zmemN (zmemN hj).2).2
    · obtain ⟨g1, g2⟩ := g.2.2.1 j hj
      rw [g1, g2, zBg_j.2 140 rfl, zBg_j.2 141 rfl]
      exact ⟨rfl, rfl⟩
    · rw [g.2.2.2.1 j hj, zBg_j.2 143 rfl]
    · rw [g.2.2.2.2 j hj, zBg_j.2 142 rfl]
  refine b_M_task hT ?_
  rw [e5]
  refine ⟨fun h9 => absurd h9 (nI_pos (by omega)), fun _ => ⟨fun h9 => absurd h9 (nI_nlt (by omega) (by omega)), fun _ => w_M_may1 hT0 zI_s (b_M_task_16 hT0 ⟨fun _ => b_M_begins hT0 (b_M_task_22 hB ?_), fun h9 => absurd (by decide) h9⟩)⟩⟩
  show (¬ zI (zBg T m) 130 15 = nI 6 → zcl 101 m_M_task m_M_isMore 57 34 [some (.ref 130), some (.int (nI m)), some (.int (zI (zBg T m) 130 20)), some (.int (nI 0)), none, none] [] [.ref 130] (zBg T m) Q) ∧ (¬ (¬ zI (zBg T m) 130 15 = nI 6) → _)
  rw [e15, e20]
  refine ⟨fun h9 => ?_, fun h9 => full (nEq (by omega) (by omega) (Classical.not_not.mp h9)) _ zBg_j (fun j hj => zBg_k hj) v0 v5 v11⟩
  have hw6 : tc < 6 := by
    have : tc ≠ 6 := fun z => h9 (by rw [z])
    omega
  refine w_M_isMore hB hxB (Nat.zero_le _) v7 (fun lt S1 j1 a1 => b_M_task_35 (j1.sh hB) ⟨fun _ => ?_, fun h8 => absurd (by decide) h8⟩) (fun eq S1 j1 a1 => b_M_task_35 (j1.sh hB) ⟨fun h8 => absurd rfl h8, fun _ => ?_⟩)
  · have J1 : zTm tc st (zBg T m) S1 := (zKB.t (F0 := st) j1.B).k (Nat.le_refl _)
    have R := w_M_ta41 (b := b) (e := m) (tc := tc) (st := st) (x1 := nI m) (Q := Q) hw6 13 (tkS b m 0) [] (u4 := none) (u5 := none) (S := S1) rfl (by omega) ⟨j1.sh hB, hCB.J j1.1 rfl, hxB.J j1, (tkS_le (Nat.zero_le _)).2, a1, hfB.K j1, (j1.2 10 (by omega)).trans v10, (j1.2 15 (by omega)).trans e15, (j1.2 20 (by omega)).trans e20, fun z => absurd rfl z, by show st + 0 ≤ _; omega⟩ (fun z => by
      rw [(tk_S (Nat.zero_le m)).1] at z
      have := (tkK_0 (Nat.zero_le m)).mp z
      omega)
    refine R (fun k t hv S2 j2 c15 c20 c142 c11 => ?_) (fun cs hv S2 j2 c15 c20 c11 c142 w => ?_)
    · rw [tlp_S (Nat.zero_le m)] at hv
      obtain ⟨g1, g2, g3, g4, g5, g6, g7⟩ := cv (J1.tr j2)
      exact bad hw6 k t hv S2 g1 g2 c15 c20 ((c142.trans (j1.1.2 142 rfl)).trans b142) g3 g4 g6 g7 c11
    · rw [tlp_S (Nat.zero_le m)] at hv
      obtain ⟨g1, g2, g3, g4, g5, g6, g7⟩ := cv (J1.tr j2)
      exact ok hw6 cs hv S2 g1 g2 c15 c20 g5 g3 g4 g6 g7 c11 c142 w
  · have e6 : zI S1 130 6 = nI m := (hxB.J j1).2.1
    rw [e6]
    have hv : tlp b m 13 0 [] = .inl (1, m) := by
      rw [tlp_s, if_pos ((tkK_0 (Nat.zero_le m)).mpr eq), if_pos (show ([] : List (List (Nat × Nat))).length = 0 from rfl), eq]
    refine w_M_wrong (j1.sh hB) (hfB.K j1) (fun S3 j3 d3 => w_M_ta_bad (tc := tc) (j3.sh (j1.sh hB)) ((j3.2 15 (by omega) (by omega) (by omega)).trans ((j1.2 15 (by omega)).trans e15)) htc d3 (by omega) (by omega) ?_)
    have J3 : zTm tc st (zBg T m) (zsI (zsI S3 130 11 (nI m)) 130 20 (nI st)) := (((zKB.t (F0 := st) (j1.B.tr j3)).k (Nat.le_refl _)).tr (zTm.s rfl)).tr (zTm.s rfl)
    obtain ⟨g1, g2, g3, g4, g5, g6, g7⟩ := cv J3
    refine bad hw6 1 m hv _ g1 g2 ?_ zI_s ?_ g3 g4 g6 g7 (by rw [zI_o (by omega), zI_s])
    · rw [zI_o (by omega), zI_o (by omega), j3.2 15 (by omega) (by omega) (by omega), j1.2 15 (by omega)]
      exact e15
    · rw [zI_ne _ _ (by omega), zI_ne _ _ (by omega), j3.1.2 142 rfl, j1.1.2 142 rfl]
      exact b142
theorem y_task0 {v1 : Int32} {len : Nat} {S : ZSt} (hS : zSh S) (hD : zStD S) (hJ : jCore S) (e1 : zI S 76 1 = nI len) (e5 : zI S 130 5 = nI len) (hl : len ≤ 400) (hv : ∀ i, i ≤ len → v1 ≠ nI i) : zC m_L_task [.ref 75, .int v1, .ref 161] S (zTwoR S m_M_task [.int v1] (zAns4 S)) := by
  have hO : zC m_N_task [.ref 75, .int v1] S (zOb S (.inl (2, 1))) := by
    refine b_N_task hS ?_
    rw [e1]
    exact w_N_isNotV (by omega) hS (fun ⟨i, a1, a2⟩ => absurd a2 (hv i a1)) (fun _ => b_N_task_7 hS (b_N_refuseIf hS ⟨fun h9 => absurd h9 (by decide), fun _ => ⟨zinl rfl, zinl rfl, zOb_bad (r := 2) (kk := 1) hS⟩⟩))
  have hM : ∀ T, zSh T → zAt S T → zC m_M_task [.ref 130, .int v1] T (zMo T (.inl (2, 1))) := fun T hT tT => by
    have hT0 : zSh (zsI T 130 0 (nI 0)) := hT
    have e : zI T 130 5 = nI len := by
      rw [tT.at rfl]
      exact e5
    refine b_M_task hT ?_
    rw [e]
    have B : zcl 101 m_M_task m_M_may 25 15 [some (.ref 130), some (.int v1), none, none, none, none] [] [.ref 130, .int (nI 0), .int (nI 1), .int (nI 2)] (zsI T 130 0 (nI 0)) (zMo T (.inl (2, 1))) := w_M_may0 hT0 zI_s (by omega) (by omega) (b_M_task_16 hT0 ⟨fun h9 => absurd rfl h9, fun _ => zMo_bad (r := 2) (kk := 1) hT⟩)
    exact ⟨fun _ => B, fun h1 => ⟨fun _ => B, fun h2 => (by rcases zout hl hv with c | c; exact absurd c h1; exact absurd c h2)⟩⟩
  refine b_L_task hS (zC.imp hO (fun o S1 h => ?_))
  obtain ⟨rfl, Sc, h1, h2, rfl⟩ := h
  exact b_L_task_8 h2 ⟨_, rfl, h1.kpT hD h2, zC.imp (hM (zThr (zsI Sc 105 2 (zI Sc 105 2 + nI 1))) h2 (fun c hc h9 => (zI_ne (S := Sc) _ _ (by omega)).trans (h1.big hD c hc h9))) (fun o S2 h => by
    obtain ⟨b, e1, e2⟩ := zy_bad (r := 2) (kk := 1) hD hJ h1 (by omega) (by omega) h
    exact ⟨b, e1, e2.to⟩)⟩
