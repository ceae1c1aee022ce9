/-! What the acts of a way are: alike -/
theorem p_act {v1 v2 v3 : Int32} {S : ZSt} (hS : zSh S) (hJ : jCore S) (hw : jWays S) : zC m_L_act [.ref 75, .int v1, .int v2, .int v3, .ref 161] S (zTwoR S m_M_act [.int v1, .int v2, .int v3] (zAns [105, 130, 131] S jCore)) := by
  obtain ⟨wc, hwc, e6, e14, hW⟩ := hw
  refine b_L_act hS (b_N_act hS (w_N_theWay hS e6 hwc (fun i hi => by obtain ⟨o, _, _, _, _, _, _, _, ho, _⟩ := hW i hi; exact ⟨o, ho⟩) (fun i o hi ev ho => ?_) (fun hx => ?_)))
  · obtain ⟨o', ra, rb, rc, n, kd, fa, fb, ho', hd, y1, y2, y3⟩ := hW i hi
    obtain rfl : o' = o := Option.some.inj (ho'.symm.trans ho)
    subst ev
    have hn := y1.2.1
    obtain ⟨w1, w2, ⟨r1, r2, r3⟩, ⟨⟨c1, n1⟩, ⟨c2, n2⟩, ⟨c3, n3⟩⟩, w5⟩ := id y2
    refine b_N_act_3 hS ⟨w1, ?_⟩
    rw [w2]
    by_cases hx : ∃ k, k < n ∧ v2 = nI k
    · obtain ⟨k, hk, rfl⟩ := hx
      obtain ⟨k1, k2, k3⟩ := w5 k hk
      obtain ⟨q1, q2, q3⟩ := y3.2 k hk
      rw [zsub1 (by omega)]
      refine w_N_isNot0 hS (nI_nlt (by omega) (by omega)) (nI_le (by omega) (by omega)) (b_N_act_12 hS (b_N_refuseElementIf hS ⟨fun _ => b_N_act_13 hS ?_, fun h9 => absurd (by decide) h9⟩))
      have M1 : ∀ {T : ZSt} {R : Value → ZSt → Prop}, zSh T → zI T 130 14 = nI wc → zI T 136 i = nI n → zI T 130 0 = nI 0 → (v3 < nI 0 ∨ nI 2 < v3 → R (.int (nI 0)) (zsI (zsI T 130 0 (nI 3)) 131 2 (zI T 131 2 + nI 1))) → (¬ v3 < nI 0 → ¬ nI 2 < v3 → zW 3 m_M_act 29 [some (.ref 130), some (.int (nI i)), some (.int (nI k)), some (.int v3), none] [.int (nI 1)] T (fun o2 S2 => ∃ b : Value, o2 = .inl (some b) ∧ R b S2)) → zW 3 m_M_act 6 [some (.ref 130), some (.int (nI i)), some (.int (nI k)), some (.int v3), none] [.int (nI 1)] T (fun o2 S2 => ∃ b : Value, o2 = .inl (some b) ∧ R b S2) := fun {T R} hT t14 t136 t0 g1 g2 => by
        refine b_M_act_6 hT ⟨fun h9 => absurd h9 (by decide), fun _ => ⟨zin (by omega) (by omega), ?_⟩⟩
        rw [zcl9 (by omega), t136, zsub1 (by omega)]
        refine w_M_within1 hT (nI_nlt (by omega) (by omega)) (nI_nlt (by omega) (by omega)) (b_M_act_17 hT (w_M_may1 hT t0 (b_M_act_20 hT ⟨fun h9 => absurd h9 (by decide), fun _ => b_M_within hT ⟨fun h1 => ⟨rfl, ?_⟩, fun h1 => ⟨fun h2 => ⟨rfl, ?_⟩, fun h2 => ⟨rfl, b_M_act_26 hT (w_M_may1 hT t0 (g2 h1 h2))⟩⟩⟩⟩)))
        · exact b_M_act_26 hT (w_M_may0 hT t0 (by omega) (by omega) (b_M_act_29 hT ⟨fun h9 => absurd (by decide) h9, fun _ => ⟨_, rfl, g1 (Or.inl h1)⟩⟩))
        · exact b_M_act_26 hT (w_M_may0 hT t0 (by omega) (by omega) (b_M_act_29 hT ⟨fun h9 => absurd (by decide) h9, fun _ => ⟨_, rfl, g1 (Or.inr h2)⟩⟩))
      have L16 : v3 < nI 0 ∨ nI 2 < v3 → zW 4 m_L_act 16 [some (.ref 75), some (.int (nI i)), some (.int (nI k)), some (.int v3), some (.ref 161), none] [.float 0] (zThr (zsI S 105 2 (zI S 105 2 + nI 1))) (zTwoR S m_M_act [.int (nI i), .int (nI k), .int v3] (zAns [105, 130, 131] S jCore)) := fun hb => b_L_act_16 hS ⟨_, rfl, ⟨rfl, rfl, rfl, hS⟩, b_M_act hS (w_M_isWay (S := zsI (zThr (zsI S 105 2 (zI S 105 2 + nI 1))) 130 0 (nI 0)) hS rfl e14 hwc (fun _ => M1 (T := zsI (zThr (zsI S 105 2 (zI S 105 2 + nI 1))) 130 0 (nI 0)) hS e14 y3.1 rfl (fun _ => zBad rfl (by decide) (jCore_bad2 hJ)) (fun h1 h2 => (hb.elim (fun h => absurd h h1) (fun h => absurd h h2)))) (fun h9 => absurd rfl (h9 i hi)))⟩
      refine b_N_isNot hS ⟨fun h1 => ⟨rfl, b_N_act_18 hS (b_N_refuseIf hS ⟨fun h9 => absurd h9 (by decide), fun _ => ⟨zinl rfl, zinl rfl, L16 (Or.inl h1)⟩⟩)⟩, fun h1 => ⟨fun h2 => ⟨rfl, ?_⟩, fun h2 => ⟨rfl, b_N_act_18 hS (b_N_refuseIf hS ⟨fun h9 => absurd h9 (by decide), fun _ => ⟨zinl rfl, zinl rfl, L16 (Or.inr (Int32.not_le.mp h2))⟩⟩)⟩⟩⟩
      refine b_N_act_18 hS (b_N_refuseIf hS ⟨fun _ => b_N_act_19 hS ?_, fun h9 => absurd (by decide) h9⟩)
      rw [zcl9 (by omega)]
      have fin : ∀ (x : Int32) (y : Int32), x = y → (¬ v3 < nI 0 → ¬ nI 2 < v3 → zW 3 m_M_act 29 [some (.ref 130), some (.int (nI i)), some (.int (nI k)), some (.int v3), none] [.int (nI 1)] (zsI (zsL S 161 0 x.toInt64) 130 0 (nI 0)) (fun o2 S2 => ∃ b : Value, o2 = .inl (some b) ∧ zAns [105, 130, 131] S jCore (nI 0) b S2)) → zW 4 m_L_act 7 [some (.ref 75), some (.int (nI i)), some (.int (nI k)), some (.int v3), some (.ref 161), none] [.int x, .int (nI 0), .ref 161] S (zTwoR S m_M_act [.int (nI i), .int (nI k), .int v3] (zAns [105, 130, 131] S jCore)) := fun x y e g => b_L_act_7 hS ⟨zinl rfl, _, rfl, ⟨rfl, rfl, rfl, hS⟩, b_M_act hS (w_M_isWay (S := zsI (zsL S 161 0 x.toInt64) 130 0 (nI 0)) hS rfl e14 hwc (fun _ => M1 (T := zsI (zsL S 161 0 x.toInt64) 130 0 (nI 0)) hS e14 y3.1 rfl (fun hb => absurd h2 (hb.elim (fun h => absurd h h1) (fun h => Int32.not_le.mpr h))) g) (fun h9 => absurd rfl (h9 i hi)))⟩
      have hv : ∀ T, T = 24 * i + k → vp_in (nI T) 168 := fun T e => zin (by omega) (by omega)
      refine ⟨fun d0 => ⟨fun d1 => ⟨w1, rc, r3, c3, by rw [n3]; exact zin (by omega) (by omega), ?_⟩, fun d1 => ⟨w1, rb, r2, c2, by rw [n2]; exact zin (by omega) (by omega), ?_⟩⟩, fun d0 => ⟨w1, ra, r1, c1, by rw [n1]; exact zin (by omega) (by omega), ?_⟩⟩
      · refine fin _ _ (k3.trans q3.symm) (fun _ _ => b_M_act_29 (S := zsI (zsL S 161 0 (zI S rc k).toInt64) 130 0 (nI 0)) hS ?_)
        rw [pk_mul, nI_add, zcl9 (by omega)]
        exact ⟨fun _ => ⟨fun _ => ⟨fun _ => ⟨hv _ rfl, _, rfl, zOK1 rfl (k3.trans q3.symm) hJ⟩, fun h9 => absurd d1 h9⟩, fun h9 => absurd d0 h9⟩, fun h9 => absurd (by decide) h9⟩
      · refine fin _ _ (k2.trans q2.symm) (fun _ _ => b_M_act_29 (S := zsI (zsL S 161 0 (zI S rb k).toInt64) 130 0 (nI 0)) hS ?_)
        rw [pk_mul, nI_add, zcl9 (by omega)]
        exact ⟨fun _ => ⟨fun _ => ⟨fun h9 => absurd h9 d1, fun _ => ⟨hv _ rfl, _, rfl, zOK1 rfl (k2.trans q2.symm) hJ⟩⟩, fun h9 => absurd d0 h9⟩, fun h9 => absurd (by decide) h9⟩
      · refine fin _ _ (k1.trans q1.symm) (fun _ _ => b_M_act_29 (S := zsI (zsL S 161 0 (zI S ra k).toInt64) 130 0 (nI 0)) hS ?_)
        rw [pk_mul, nI_add, zcl9 (by omega)]
        exact ⟨fun _ => ⟨fun h9 => absurd h9 d0, fun _ => ⟨hv _ rfl, _, rfl, zOK1 rfl (k1.trans q1.symm) hJ⟩⟩, fun h9 => absurd (by decide) h9⟩
    · have C : zW 3 m_M_act 17 [some (.ref 130), some (.int (nI i)), some (.int v2), some (.int v3), none] [.int (nI 0), .ref 130] (zsI (zThr (zsI S 105 1 (zI S 105 1 + nI 1))) 130 0 (nI 0)) (fun o2 S2 => ∃ b : Value, o2 = .inl (some b) ∧ zAns [105, 130, 131] S jCore (nI 2) b S2) := b_M_act_17 hS (w_M_may0 (S := zsI (zThr (zsI S 105 1 (zI S 105 1 + nI 1))) 130 0 (nI 0)) hS rfl (by omega) (by omega) (b_M_act_20 hS ⟨fun _ => ⟨_, rfl, zBad rfl (by decide) (jCore_bad1 hJ)⟩, fun h9 => absurd (by decide) h9⟩))
      have D : zW 3 m_M_act 6 [some (.ref 130), some (.int (nI i)), some (.int v2), some (.int v3), none] [.int (nI 1)] (zsI (zThr (zsI S 105 1 (zI S 105 1 + nI 1))) 130 0 (nI 0)) (fun o2 S2 => ∃ b : Value, o2 = .inl (some b) ∧ zAns [105, 130, 131] S jCore (nI 2) b S2) := by
        refine b_M_act_6 (S := zsI (zThr (zsI S 105 1 (zI S 105 1 + nI 1))) 130 0 (nI 0)) hS ⟨fun h9 => absurd h9 (by decide), fun _ => ⟨zin (by omega) (by omega), ?_⟩⟩
        rw [zcl9 (by omega), show zI (zsI (zThr (zsI S 105 1 (zI S 105 1 + nI 1))) 130 0 (nI 0)) 136 i = nI n from y3.1]
        exact b_M_within hS ⟨fun _ => ⟨rfl, C⟩, fun h1 => ⟨fun _ => ⟨rfl, C⟩, fun h2 => absurd (way_in (by omega) h1 h2) hx⟩⟩
      have L13 : zW 4 m_L_act 13 [some (.ref 75), some (.int (nI i)), some (.int v2), some (.int v3), some (.ref 161), none] [.float 0] (zThr (zsI S 105 1 (zI S 105 1 + nI 1))) (zTwoR S m_M_act [.int (nI i), .int v2, .int v3] (zAns [105, 130, 131] S jCore)) := b_L_act_13 hS ⟨_, rfl, ⟨rfl, rfl, rfl, hS⟩, b_M_act hS (w_M_isWay (S := zsI (zThr (zsI S 105 1 (zI S 105 1 + nI 1))) 130 0 (nI 0)) hS rfl e14 hwc (fun _ => D) (fun h9 => absurd rfl (h9 i hi)))⟩
      exact b_N_isNot hS ⟨fun _ => ⟨rfl, b_N_act_12 hS (b_N_refuseElementIf hS ⟨fun h9 => absurd h9 (by decide), fun _ => ⟨zinl rfl, zinl rfl, L13⟩⟩)⟩, fun h1 => ⟨fun h2 => absurd (way_in (by omega) h1 (Int32.not_lt.mpr h2)) hx, fun _ => ⟨rfl, b_N_act_12 hS (b_N_refuseElementIf hS ⟨fun h9 => absurd h9 (by decide), fun _ => ⟨zinl rfl, zinl rfl, L13⟩⟩)⟩⟩⟩
  · exact b_L_act_10 hS ⟨_, rfl, ⟨rfl, rfl, rfl, hS⟩, b_M_act hS (w_M_isWay (S := zsI (zThr (zsI S 105 0 (zI S 105 0 + nI 1))) 130 0 (nI 0)) hS rfl e14 hwc (fun h9 => by obtain ⟨i, hi, e⟩ := h9; exact absurd e (hx i hi)) (fun _ => b_M_act_6 hS ⟨fun _ => ⟨_, rfl, zBad rfl (by decide) (jCore_bad0 hJ)⟩, fun h9 => absurd (by decide) h9⟩))⟩
