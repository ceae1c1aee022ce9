/-! find: both alike -/
def fdV (H wd mv pr m n most k w : Nat) (cs : List (List (Nat × Nat))) : Int32 := if w = 1 then nI (skL H wd mv pr cs m n most k 1 0).2 else match (skL H wd mv pr cs m n most k 1 0).1 with
  | none => - nI 1
  | some (l, q) => if w = 0 then nI l else if w = 2 then nI (1 + rvI (dsA (letF H l wd mv pr) l cs m n) (letF H l wd mv pr).length l (most - (skL H wd mv pr cs m n most k 1 0).2) q) else if w - 3 < l then nI (q (w - 3)) else - nI 1
theorem fdV1 {H wd mv pr m n most k w : Nat} {cs : List (List (Nat × Nat))} (h : w = 1) : fdV H wd mv pr m n most k w cs = nI (skL H wd mv pr cs m n most k 1 0).2 := by
  unfold fdV
  rw [if_pos h]
theorem fdVn {H wd mv pr m n most k w : Nat} {cs : List (List (Nat × Nat))} (h : w ≠ 1) (e : (skL H wd mv pr cs m n most k 1 0).1 = none) : fdV H wd mv pr m n most k w cs = - nI 1 := by
  unfold fdV
  rw [if_neg h, e]
theorem fdVs {H wd mv pr m n most k w l : Nat} {q : Nat → Nat} {cs : List (List (Nat × Nat))} (h : w ≠ 1) (e : (skL H wd mv pr cs m n most k 1 0).1 = some (l, q)) : fdV H wd mv pr m n most k w cs = if w = 0 then nI l else if w = 2 then nI (1 + rvI (dsA (letF H l wd mv pr) l cs m n) (letF H l wd mv pr).length l (most - (skL H wd mv pr cs m n most k 1 0).2) q) else if w - 3 < l then nI (q (w - 3)) else - nI 1 := by
  unfold fdV
  rw [if_neg h, e]
theorem nI_ne1 {w v : Nat} (h : ¬ nI w = nI v) : w ≠ v := fun e => h (by rw [e])
theorem nI_eq1 {w v : Nat} (hw : w ≤ 5) (hv : v ≤ 5) (h : ¬ ¬ nI w = nI v) : w = v := nEq (by omega) (by omega) (Classical.not_not.mp h)
set_option maxHeartbeats 2000000 in
theorem p_find {v1 v2 v3 v4 v5 v6 : Int32} {S : ZSt} (hS : zSh S) (hD : zStD S) (hJ : jCore S) (ht : jTasks S) (h34 : zI S 130 34 = - nI 1) : zC m_L_find [.ref 75, .int v1, .int v2, .int v3, .int v4, .int v5, .int v6, .ref 161] S (zTwoR S m_M_find [.int v1, .int v2, .int v3, .int v4, .int v5, .int v6] (zAns4 S)) := by
  obtain ⟨tc, htc, e7, e15, hT⟩ := ht
  have t15 : ∀ {T}, zAt S T → zI (zsI T 130 0 (nI 0)) 130 15 = nI tc := fun {T} tT => by rw [zI_o (by omega), tT.at rfl]; exact e15
  rcases zpick tc v1 with hy | ⟨t, ht, rfl⟩
  · exact y_find (res := .inl (1, 1)) hS hD hJ (fun r kk e => by cases e; omega) (b_N_find hS (w_N_theTask0 hS e7 htc hy (tN hT) (zOb_bad (r := 1) (kk := 1) hS))) (fun T hT' tT => b_M_find hT' (b_M_mayFind hT' (w_M_isTask0 (S := zsI T 130 0 (nI 0)) hT' rfl (t15 tT) htc (by omega) hy (b_M_mayFind_4 hT' ⟨fun _ => ⟨rfl, b_M_find_11 hT' ⟨fun h9 => absurd (by decide) h9, fun _ => zMo_bad (r := 1) (kk := 1) hT'⟩⟩, fun h9 => absurd (by decide) h9⟩))))
  obtain ⟨o2, cs, ho2, hOT, hTM⟩ := hT t ht
  obtain ⟨x0, x1, x2, x3, x4, x5, hf, hg⟩ := hJ.1.1.vl
  have vT : ∀ {T : ZSt}, zAt S T → zVl (zI (zsI T 130 0 (nI 0)) 132) x0 x1 x2 x3 x4 x5 := fun {T} tT => by
    show zVl (zI T 132) x0 x1 x2 x3 x4 x5
    rw [tT.at rfl]
    exact hf
  have g2 := hg.2.2.1
  have OA : ∀ {Q : ZOut → ZSt → Prop}, zW 7 m_N_find 3 [some (.ref 75), some (.int (nI t)), some (.int v2), some (.int v3), some (.int v4), some (.int v5), some (.int v6), none, none] [.ref o2] S Q → zC m_N_find [.ref 75, .int (nI t), .int v2, .int v3, .int v4, .int v5, .int v6] S Q := fun {Q} g => b_N_find hS (w_N_theTask1 hS e7 htc ht ho2 (tN hT) g)
  have MA : ∀ {T : ZSt} {Q : ZOut → ZSt → Prop}, zSh T → zAt S T → (zQu v2 v3 v4 v5 x0 x2 ∧ zIn v6 0 5 → zW 6 m_M_find 11 [some (.ref 130), some (.int (nI t)), some (.int v2), some (.int v3), some (.int v4), some (.int v5), some (.int v6)] [.int (nI 1)] (zsI T 130 0 (nI 0)) Q) → (¬ (zQu v2 v3 v4 v5 x0 x2 ∧ zIn v6 0 5) → zW 6 m_M_find 11 [some (.ref 130), some (.int (nI t)), some (.int v2), some (.int v3), some (.int v4), some (.int v5), some (.int v6)] [.int (nI 0)] (zsI (zsI (zsI T 130 0 (nI 0)) 130 0 (nI 2)) 131 2 (zI (zsI T 130 0 (nI 0)) 131 2 + nI 1)) Q) → zC m_M_find [.ref 130, .int (nI t), .int v2, .int v3, .int v4, .int v5, .int v6] T Q := fun {T Q} hT' tT ok bad => b_M_find hT' (b_M_mayFind hT' (w_M_isTask1 (S := zsI T 130 0 (nI 0)) hT' rfl (t15 tT) htc (by omega) ht (b_M_mayFind_4 hT' ⟨fun h9 => absurd h9 (by decide), fun _ => w_M_mF (S := zsI T 130 0 (nI 0)) hT' (vT tT).1.1 hf.1.2.2 (vT tT).2.2.1.1 hf.2.2.1.2.2 rfl (fun q => b_M_mayFind_49 hT' ⟨fun h9 => absurd h9 (by decide), fun _ => ⟨rfl, ok q⟩⟩) (fun q => b_M_mayFind_49 hT' ⟨fun _ => ⟨rfl, bad q⟩, fun h9 => absurd (by decide) h9⟩)⟩)))
  by_cases hq : zQu v2 v3 v4 v5 x0 x2 ∧ zIn v6 0 5
  case neg =>
    exact y_find (res := .inl (2, 2)) hS hD hJ (fun r kk e => by cases e; omega) (OA (b_N_find_3 hS (w_N_isNoQuest hS hg.1.1 hg.1.2.2 g2.1 g2.2.2 (fun q => b_N_find_11 hS ⟨fun h9 => absurd (by decide) h9, fun _ => w_N_isNotR rfl hS (fun h8 => absurd ⟨q, h8⟩ hq) (fun _ => b_N_find_16 hS ⟨fun h9 => absurd h9 (by decide), fun _ => b_N_refuseIf hS ⟨fun h9 => absurd h9 (by decide), fun _ => ⟨zinl rfl, zinl rfl, zOb_bad (r := 2) (kk := 2) hS⟩⟩⟩)⟩) (fun _ => b_N_find_11 hS ⟨fun _ => b_N_refuseIf hS ⟨fun h9 => absurd h9 (by decide), fun _ => ⟨zinl rfl, zinl rfl, zOb_bad (r := 2) (kk := 2) hS⟩⟩, fun h9 => absurd (by decide) h9⟩)))) (fun T hT' tT => MA hT' tT (fun h9 => absurd h9 hq) (fun _ => b_M_find_11 hT' ⟨fun h9 => absurd (by decide) h9, fun _ => zMo_bad (r := 2) (kk := 2) hT'⟩))
  have hq' := hq
  obtain ⟨⟨⟨m, n, m1, m2, m3, n1, rfl, rfl⟩, ⟨k, d1, d2, d3, rfl⟩, ⟨most, c1, c2, rfl⟩⟩, ⟨w, -, w2, rfl⟩⟩ := hq
  have h01 := hg.1.2.1
  have h02 := hg.1.2.2
  obtain ⟨H, eH⟩ : ∃ H, H = if x0 < 3 then x0 else 3 := ⟨_, rfl⟩
  have hH : 1 ≤ H ∧ H ≤ 3 := by rw [eH]; split <;> omega
  refine y_find (res := .inr (fdV H x3 x5 x4 m n most k w cs)) hS hD hJ (fun r kk e => by cases e) (OA (b_N_find_3 hS (w_N_isNoQuest hS hg.1.1 hg.1.2.2 g2.1 g2.2.2 (fun _ => b_N_find_11 hS ⟨fun h9 => absurd (by decide) h9, fun _ => w_N_isNotR rfl hS (fun _ => b_N_find_16 hS ⟨fun _ => b_N_refuseIf hS ⟨fun _ => b_N_find_21 hS (w_Tr_seek hH h02 eH hg.2.2.2.1.2 hg.2.2.2.2.2.2 hg.2.2.2.2.1.2 (by omega) (by omega) c2 d2 hS hD hOT hg.1.1 hg.2.2.2.1.1 hg.2.2.2.2.1.1 hg.2.2.2.2.2.1 (fun l q hl S' g' s' l' p' e' => b_N_find_32 s' ?_) (fun hl S' g' s' e' => b_N_find_32 s' ?_)), fun h9 => absurd (by decide) h9⟩, fun h9 => absurd (by decide) h9⟩) (fun h9 => absurd hq'.2 h9)⟩) (fun h9 => absurd hq'.1 h9)))) (fun T hT' tT => MA hT' tT (fun _ => b_M_find_11 hT' ⟨fun _ => ?_, fun h9 => absurd (by decide) h9⟩) (fun h9 => absurd hq' h9))
  · obtain ⟨hl1, hl2⟩ := skL_at (acts := k) k 1 0 (by omega) (by omega) (Nat.zero_le _) hl
    have hle := skL_le (H := H) (wd := x3) (mv := x5) (pr := x4) (cs := cs) (m := m) (n := n) (most := most) k 1 0 (Nat.zero_le _)
    refine ⟨fun hw1 => ⟨fun _ => ⟨fun hw0 => ⟨fun hw2 => ?_, fun hw2 => ?_⟩, fun hw0 => ?_⟩, fun h9 => absurd (by decide) h9⟩, fun hw1 => ?_⟩
    · have a1 := nI_ne1 hw1
      have a0 := nI_ne1 (v := 0) hw0
      have a2 := nI_ne1 hw2
      have eV := fdVs a1 hl
      rw [if_neg a0, if_neg a2] at eV
      rw [pk_sub (by omega)]
      refine b_Tr_pickAt s' ⟨fun h9 => absurd h9 (nI_pos (by omega)), fun _ => ⟨fun h9 => ?_, fun h9 => ⟨fun h8 => absurd h8 (nI_ge (by omega) (by omega)), fun _ => ⟨zin (by omega) (by omega), b_N_find_68 s' ⟨?_, g', s'⟩⟩⟩⟩⟩
      · rw [p'.1] at h9
        refine b_N_find_68 s' ⟨?_, g', s'⟩
        rw [eV, if_neg (fun c => nI_ge c (by omega) h9)]
      · rw [p'.1] at h9
        have c : w - 3 < l := Nat.lt_of_not_le (fun c => h9 (nI_le c (by omega)))
        rw [eV, if_pos c, zcl9 (by omega), (p'.2 _ c).2.1]
    · have a1 := nI_ne1 hw1
      have a2 := nI_eq1 w2 (by omega) hw2
      have eV := fdVs a1 hl
      rw [if_neg (by omega), if_pos a2] at eV
      obtain ⟨hok, hL⟩ := chkL_at hH (show 1 ≤ l ∧ l ≤ 3 by omega) hg.2.2.2.1.2 hg.2.2.2.2.2.2 hg.2.2.2.2.1.2
      have hpos : 0 < (letF H l x3 x5 x4).length := by
        unfold letF
        simp only [List.length_append, List.length_cons, List.length_nil]
        omega
      refine b_Tr_countRivals s' ?_
      rw [e']
      refine w_Tr_cR5 hok hL hpos (by omega) (by omega) (by omega) c2 _ _ 1 s' (g'.D hD) l' p' (hOT.H g') (Nat.sub_add_cancel hle) (fun S3 g3 s3 => b_N_find_61 s3 ⟨?_, g'.tr g3, s3⟩)
      rw [eV]
    · have a1 := nI_ne1 hw1
      have a0 := nI_eq1 (v := 0) w2 (by omega) hw0
      have eV := fdVs a1 hl
      rw [if_pos a0] at eV
      exact ⟨by rw [p'.1, eV], g', s'⟩
    · exact ⟨by rw [e', fdV1 (nI_eq1 w2 (by omega) hw1)], g', s'⟩
  · exact ⟨fun hw1 => ⟨fun h9 => absurd rfl h9, fun _ => ⟨by rw [fdVn (nI_ne1 hw1) hl], g', s'⟩⟩, fun hw1 => ⟨by rw [e', fdV1 (nI_eq1 w2 (by omega) hw1)], g', s'⟩⟩
  · have hv := vT tT
    have fin : ∀ {S' : ZSt} {v : Int32}, zJX (zsI T 130 0 (nI 0)) S' → v = fdV H x3 x5 x4 m n most k w cs → zMo T (.inr (fdV H x3 x5 x4 m n most k w cs)) (.inl (some (.int v))) S' := fun {S' v} g' e => ⟨by rw [e], zH0.tr (g'.1.hM rfl), g'.sh hT', g'.1.l161, zKM0.tr g'.2.1, g'.2.2.trans zI_s⟩
    refine w_M_finds (S := zsI T 130 0 (nI 0)) hH h02 eH hv.2.2.2.1.2 hv.2.2.2.2.2.2 hv.2.2.2.2.1.2 (by omega) (by omega) c2 d2 (by omega) hOT.1 hT' hv.1.1 hv.2.2.2.1.1 hv.2.2.2.2.1.1 hv.2.2.2.2.2.1 (by rw [zI_o (by omega), tT.at rfl]; exact h34) ((hTM.T tT).cg rfl rfl rfl rfl) (fun l q hl S' g' a44 a45 a46 fd => b_M_find_21 (g'.sh hT') ?_) (fun hl S' g' a44 a45 => b_M_find_21 (g'.sh hT') ?_)
    · obtain ⟨hl1, hl2⟩ := skL_at (acts := k) k 1 0 (by omega) (by omega) (Nat.zero_le _) hl
      refine ⟨fun hw1 => ⟨fun _ => ⟨fun hw0 => ⟨fun hw2 => ?_, fun hw2 => ?_⟩, fun hw0 => ?_⟩, fun h9 => absurd (by rw [a44]; exact zneq1 (by omega)) h9⟩, fun hw1 => ?_⟩
      · have a1 := nI_ne1 hw1
        have a0 := nI_ne1 (v := 0) hw0
        have a2 := nI_ne1 hw2
        have eV := fdVs a1 hl
        rw [if_neg a0, if_neg a2] at eV
        rw [pk_sub (by omega), zcl9 (by omega)]
        refine ⟨zin (by omega) (by omega), fin g' ?_⟩
        rw [eV]
        by_cases c : w - 3 < l
        · rw [if_pos c]
          exact ((fd _ (by omega)).1 c).1
        · rw [if_neg c]
          exact (fd _ (by omega)).2 (by omega)
      · have eV := fdVs (nI_ne1 hw1) hl
        rw [if_neg (by have := nI_eq1 w2 (by omega) hw2; omega), if_pos (nI_eq1 w2 (by omega) hw2)] at eV
        exact fin g' (by rw [eV, a46])
      · have eV := fdVs (nI_ne1 hw1) hl
        rw [if_pos (nI_eq1 (v := 0) w2 (by omega) hw0)] at eV
        exact fin g' (by rw [eV, a44])
      · exact fin g' (by rw [a45, fdV1 (nI_eq1 w2 (by omega) hw1)])
    · exact ⟨fun hw1 => ⟨fun h9 => absurd a44 h9, fun _ => fin g' (by rw [fdVn (nI_ne1 hw1) hl])⟩, fun hw1 => fin g' (by rw [a45, fdV1 (nI_eq1 w2 (by omega) hw1)])⟩
