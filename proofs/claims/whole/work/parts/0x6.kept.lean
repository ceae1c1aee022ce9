/-! kept: alike -/
theorem w_N_isNotV {v : Int32} {A : Nat} {S : ZSt} {Q : ZOut → ZSt → Prop} (hA : A ≤ 100000) (hS : zSh S) (ok : (∃ i, i ≤ A ∧ v = nI i) → Q (.inl (some (.int (nI 0)))) S) (bad : (∀ i, i ≤ A → v ≠ nI i) → Q (.inl (some (.int (nI 1)))) S) : zC m_N_isNot [.int v, .int (nI 0), .int (nI A)] S Q := by
  have := w_N_isNotU (v := v) (A := A + 1) (S := S) (Q := Q) 
  by_cases hx : ∃ i, i ≤ A ∧ v = nI i
  · have hx' := hx
    obtain ⟨i, hi, rfl⟩ := hx
    exact w_N_isNot0 hS (nI_nlt (by omega) (by omega)) (nI_le (by omega) (by omega)) (ok hx')
  · have hb := bad (fun i hi e => hx ⟨i, hi, e⟩)
    refine b_N_isNot hS ⟨fun _ => ⟨rfl, hb⟩, fun h1 => ⟨fun h2 => absurd ?_ hx, fun _ => ⟨rfl, hb⟩⟩⟩
    have tA := nI_toInt (n := A) (by omega)
    rw [zlt, zt (k := 0) rfl] at h1
    rw [zle9, tA] at h2
    exact ⟨v.toInt.toNat, by omega, zofN (by omega)⟩
theorem w_M_withinV {v : Int32} {A : Nat} {S : ZSt} {Q : ZOut → ZSt → Prop} (hA : A ≤ 100000) (hS : zSh S) (ok : (∃ i, i ≤ A ∧ v = nI i) → Q (.inl (some (.int (nI 1)))) S) (bad : (∀ i, i ≤ A → v ≠ nI i) → Q (.inl (some (.int (nI 0)))) S) : zC m_M_within [.int v, .int (nI 0), .int (nI A)] S Q := by
  by_cases hx : ∃ i, i ≤ A ∧ v = nI i
  · have hx' := hx
    obtain ⟨i, hi, rfl⟩ := hx
    exact w_M_within1 hS (nI_nlt (by omega) (by omega)) (nI_nlt (by omega) (by omega)) (ok hx')
  · have hb := bad (fun i hi e => hx ⟨i, hi, e⟩)
    refine b_M_within hS ⟨fun _ => ⟨rfl, hb⟩, fun h1 => ⟨fun _ => ⟨rfl, hb⟩, fun h2 => absurd ?_ hx⟩⟩
    have tA := nI_toInt (n := A) (by omega)
    rw [zlt, zt (k := 0) rfl] at h1
    rw [zlt, tA] at h2
    exact ⟨v.toInt.toNat, by omega, zofN (by omega)⟩
theorem w_M_kR_29 {x1 x2 x3 v3 v4 : Int32} {x0 : Nat} {S : ZSt} {Q : ZOut → ZSt → Prop} (hS : zSh S) (hx0 : zI S 132 0 = nI x0) (hx : x0 ≤ 12) (h0 : zI S 130 0 = nI 0) (ok : zRg v3 v4 x0 3 9 → zW 4 m_M_kept 47 [some (.ref 130), some (.int x1), some (.int x2), some (.int x3), some (.int v3), some (.int v4), none, none, none, none, none] [.int (nI 1)] S Q) (bad : ¬ zRg v3 v4 x0 3 9 → zW 4 m_M_kept 47 [some (.ref 130), some (.int x1), some (.int x2), some (.int x3), some (.int v3), some (.int v4), none, none, none, none, none] [.int (nI 0)] (zsI (zsI S 130 0 (nI 3)) 131 2 (zI S 131 2 + nI 1)) Q) : zC m_M_within [.int v3, .int (nI 1), .int (nI 3)] S (zback m_M_kept 47 28 [some (.ref 130), some (.int x1), some (.int x2), some (.int x3), some (.int v3), some (.int v4), none, none, none, none, none] [.ref 130] (fun i1 l1 s1 S1 => zW 4 m_M_kept i1 l1 s1 S1 Q) (fun x S1 => Q (.inr x) S1)) := by
  refine w_M_withinR rfl hS (fun ⟨m, a1, a2, a3⟩ => b_M_kept_29 hS ⟨fun h9 => absurd h9 (by decide), fun _ => ⟨zinl rfl, ?_⟩⟩) (fun h9 => b_M_kept_29 hS ⟨fun _ => w_M_may0 hS h0 (by omega) (by omega) (bad (fun ⟨m, n, b1, b2, b3, b4, b5, b6⟩ => h9 ⟨m, b1, b2, b5⟩)), fun h8 => absurd (by decide) h8⟩)
  subst a3
  rw [hx0]
  refine ⟨fun h9 => w_M_may0 hS h0 (by omega) (by omega) (bad (fun ⟨m', n, b1, b2, b3, b4, b5, b6⟩ => ?_)), fun h9 => ?_⟩
  · have e1 : m = m' := nEq (by omega) (by omega) b5
    exact absurd h9 (nI_nlt (by omega) (by omega))
  · have hm : m ≤ x0 := Nat.not_lt.mp (fun h8 => h9 (nI_lt h8 (by omega)))
    exact w_M_withinR rfl hS (fun ⟨n, c1, c2, c3⟩ => b_M_kept_40 hS ⟨fun h9 => absurd h9 (by decide), fun _ => w_M_may1 hS h0 (ok ⟨m, n, a1, a2, hm, c2, rfl, c3⟩)⟩) (fun h9 => b_M_kept_40 hS ⟨fun _ => w_M_may0 hS h0 (by omega) (by omega) (bad (fun ⟨m', n, b1, b2, b3, b4, b5, b6⟩ => h9 ⟨n, Nat.zero_le _, b4, b6⟩)), fun h8 => absurd (by decide) h8⟩)
set_option maxHeartbeats 2000000 in
theorem p_kept {v1 v2 v5 v3 v4 : Int32} {S : ZSt} (hS : zSh S) (hD : zStD S) (hJ : jCore S) (hw : jWays S) (hn : zWn S) (ht : jTasks S) (h34 : zI S 130 34 = - nI 1) : zC m_L_kept [.ref 75, .int v1, .int v2, .int v5, .int v3, .int v4, .ref 161] S (zTwoR S m_M_kept [.int v1, .int v2, .int v5, .int v3, .int v4] (zAns4 S)) := by
  obtain ⟨wc, hwc, e6, e14, hW⟩ := hw
  obtain ⟨tc, htc, e7, e15, hT⟩ := ht
  have t14 : ∀ {T}, zAt S T → zI (zsI T 130 0 (nI 0)) 130 14 = nI wc := fun {T} tT => by rw [zI_o (by omega), tT.at rfl]; exact e14
  have t15 : ∀ {T}, zAt S T → zI (zsI T 130 0 (nI 0)) 130 15 = nI tc := fun {T} tT => by rw [zI_o (by omega), tT.at rfl]; exact e15
  rcases zpick wc v1 with hx | ⟨i, hi, rfl⟩
  · refine y_kept (res := .inl (0, 1)) hS hD hJ (fun r kk e => by cases e; omega) (b_N_kept hS (w_N_theWay0 hS e6 hwc hx (wN hW) (zOb_bad (r := 0) (kk := 1) hS))) (fun T hT' tT => ?_)
    exact b_M_kept hT' (w_M_isWay0 (S := zsI T 130 0 (nI 0)) hT' rfl (t14 tT) hwc hx (b_M_kept_6 hT' ⟨fun _ => zMo_bad (r := 0) (kk := 1) hT', fun h9 => absurd (by decide) h9⟩))
  obtain ⟨o, ra, rb, rc, N, kd, fa, fb, ho, hd, y1, y2, y3⟩ := hW i hi
  have OA : ∀ {Q : ZOut → ZSt → Prop}, zW 6 m_N_kept 3 [some (.ref 75), some (.int (nI i)), some (.int v2), some (.int v5), some (.int v3), some (.int v4), none, none, none, none] [.ref o] S Q → zC m_N_kept [.ref 75, .int (nI i), .int v2, .int v5, .int v3, .int v4] S Q := fun {Q} g => b_N_kept hS (w_N_theWay1 hS e6 hwc hi ho (wN hW) g)
  have MA : ∀ {T : ZSt} {Q : ZOut → ZSt → Prop}, zSh T → zAt S T → zW 4 m_M_kept 6 [some (.ref 130), some (.int (nI i)), some (.int v2), some (.int v5), some (.int v3), some (.int v4), none, none, none, none, none] [.int (nI 1)] (zsI T 130 0 (nI 0)) Q → zC m_M_kept [.ref 130, .int (nI i), .int v2, .int v5, .int v3, .int v4] T Q := fun {T Q} hT' tT g => b_M_kept hT' (w_M_isWay1 (S := zsI T 130 0 (nI 0)) hT' rfl (t14 tT) hwc hi g)
  rcases zpick tc v2 with hy | ⟨t, ht, rfl⟩
  · refine y_kept (res := .inl (1, 2)) hS hD hJ (fun r kk e => by cases e; omega) (OA (b_N_kept_3 hS (w_N_theTask0 hS e7 htc hy (tN hT) (zOb_bad (r := 1) (kk := 2) hS)))) (fun T hT' tT => MA hT' tT (b_M_kept_6 hT' ⟨fun h9 => absurd h9 (by decide), fun _ => w_M_isTask0 (S := zsI T 130 0 (nI 0)) hT' rfl (t15 tT) htc (by omega) hy (b_M_kept_11 hT' ⟨fun _ => zMo_bad (r := 1) (kk := 2) hT', fun h9 => absurd (by decide) h9⟩)⟩))
  obtain ⟨o2, cs, ho2, hOT, hTM⟩ := hT t ht
  have hOW := OW_of hn ho hd y1 y2
  have hN24 := y1.2.1
  obtain ⟨x0, x1, x2, x3, x4, x5, hf, hg⟩ := hJ.1.1.vl
  have vT : ∀ {T : ZSt}, zAt S T → zVl (zI (zsI T 130 0 (nI 0)) 132) x0 x1 x2 x3 x4 x5 := fun {T} tT => by
    show zVl (zI T 132) x0 x1 x2 x3 x4 x5
    rw [tT.at rfl]
    exact hf
  have OB : ∀ {Q : ZOut → ZSt → Prop}, zC m_N_isNot [.int v5, .int (nI 0), .int (nI N)] S (zback m_N_kept 22 13 [some (.ref 75), some (.int (nI i)), some (.int (nI t)), some (.int v5), some (.int v3), some (.int v4), some (.ref o), some (.ref o2), none, none] [.ref 75] (fun i1 l1 s1 S1 => zW 6 m_N_kept i1 l1 s1 S1 Q) (fun x S1 => Q (.inr x) S1)) → zC m_N_kept [.ref 75, .int (nI i), .int (nI t), .int v5, .int v3, .int v4] S Q := fun {Q} g => OA (b_N_kept_3 hS (w_N_theTask1 hS e7 htc ht ho2 (tN hT) (b_N_kept_7 hS ⟨y2.1, by rw [y2.2.1]; exact g⟩)))
  have MB : ∀ {T : ZSt} {Q : ZOut → ZSt → Prop}, zSh T → zAt S T → zC m_M_within [.int v5, .int (nI 0), .int (nI N)] (zsI T 130 0 (nI 0)) (zback m_M_kept 31 19 [some (.ref 130), some (.int (nI i)), some (.int (nI t)), some (.int v5), some (.int v3), some (.int v4), none, none, none, none, none] [.ref 130] (fun i1 l1 s1 S1 => zW 4 m_M_kept i1 l1 s1 S1 Q) (fun x S1 => Q (.inr x) S1)) → zC m_M_kept [.ref 130, .int (nI i), .int (nI t), .int v5, .int v3, .int v4] T Q := fun {T Q} hT' tT g => MA hT' tT (b_M_kept_6 hT' ⟨fun h9 => absurd h9 (by decide), fun _ => w_M_isTask1 (S := zsI T 130 0 (nI 0)) hT' rfl (t15 tT) htc (by omega) ht (b_M_kept_11 hT' ⟨fun h9 => absurd h9 (by decide), fun _ => ⟨zin (by omega) (by omega), by rw [zcl9 (by omega), (y3.T0 (v := nI 0) tT).1]; exact g⟩⟩)⟩)
  rcases zpick (N + 1) v5 with hz | ⟨k, hk, rfl⟩
  · exact y_kept (res := .inl (1, 2)) hS hD hJ (fun r kk e => by cases e; omega) (OB (w_N_isNotV (by omega) hS (fun ⟨k, hk, e⟩ => absurd e (hz k (by omega))) (fun _ => b_N_kept_14 hS (b_N_refuseElementIf hS ⟨fun h9 => absurd h9 (by decide), fun _ => ⟨zinl rfl, zinl rfl, zOb_bad (r := 1) (kk := 2) hS⟩⟩)))) (fun T hT' tT => MB hT' tT (w_M_withinV (by omega) hT' (fun ⟨k, hk, e⟩ => absurd e (hz k (by omega))) (fun _ => b_M_kept_20 hT' (w_M_may0 (S := zsI T 130 0 (nI 0)) hT' rfl (by omega) (by omega) (b_M_kept_23 hT' ⟨fun _ => zMo_bad (r := 1) (kk := 2) hT', fun h9 => absurd (by decide) h9⟩)))))
  have OC : ∀ {Q : ZOut → ZSt → Prop}, zW 6 m_N_kept 15 [some (.ref 75), some (.int (nI i)), some (.int (nI t)), some (.int (nI k)), some (.int v3), some (.int v4), some (.ref o), some (.ref o2), none, none] [] S Q → zC m_N_kept [.ref 75, .int (nI i), .int (nI t), .int (nI k), .int v3, .int v4] S Q := fun {Q} g => OB (w_N_isNotV (by omega) hS (fun _ => b_N_kept_14 hS (b_N_refuseElementIf hS ⟨fun _ => g, fun h9 => absurd (by decide) h9⟩)) (fun h9 => absurd rfl (h9 k (by omega))))
  have MC : ∀ {T : ZSt} {Q : ZOut → ZSt → Prop}, zSh T → zAt S T → zW 4 m_M_kept 23 [some (.ref 130), some (.int (nI i)), some (.int (nI t)), some (.int (nI k)), some (.int v3), some (.int v4), none, none, none, none, none] [.int (nI 1)] (zsI T 130 0 (nI 0)) Q → zC m_M_kept [.ref 130, .int (nI i), .int (nI t), .int (nI k), .int v3, .int v4] T Q := fun {T Q} hT' tT g => MB hT' tT (w_M_withinV (by omega) hT' (fun _ => b_M_kept_20 hT' (w_M_may1 (S := zsI T 130 0 (nI 0)) hT' rfl g)) (fun h9 => absurd rfl (h9 k (by omega))))
  by_cases hr : zRg v3 v4 x0 3 9
  case neg =>
    exact y_kept (res := .inl (2, 3)) hS hD hJ (fun r kk e => by cases e; omega) (OC (b_N_kept_15 hS (w_N_isNoRange rfl rfl (by omega) hS hg.1.1 hg.1.2.2 (fun h9 => absurd h9 hr) (fun _ => b_N_kept_22 hS (b_N_refuseIf hS ⟨fun h9 => absurd h9 (by decide), fun _ => ⟨zinl rfl, zinl rfl, zOb_bad (r := 2) (kk := 3) hS⟩⟩))))) (fun T hT' tT => MC hT' tT (b_M_kept_23 hT' ⟨fun h9 => absurd h9 (by decide), fun _ => w_M_kR_29 (S := zsI T 130 0 (nI 0)) hT' (vT tT).1.1 hf.1.2.2 rfl (fun h9 => absurd h9 hr) (fun _ => b_M_kept_47 hT' ⟨fun _ => zMo_bad (r := 2) (kk := 3) hT', fun h9 => absurd (by decide) h9⟩)⟩))
  have hr' := hr
  obtain ⟨m, n, m1, m2, m3, n1, rfl, rfl⟩ := hr
  have OD : ∀ {Q : ZOut → ZSt → Prop}, zW 6 m_N_kept 23 [some (.ref 75), some (.int (nI i)), some (.int (nI t)), some (.int (nI k)), some (.int (nI m)), some (.int (nI n)), some (.ref o), some (.ref o2), none, none] [] S Q → zC m_N_kept [.ref 75, .int (nI i), .int (nI t), .int (nI k), .int (nI m), .int (nI n)] S Q := fun {Q} g => OC (b_N_kept_15 hS (w_N_isNoRange rfl rfl (by omega) hS hg.1.1 hg.1.2.2 (fun _ => b_N_kept_22 hS (b_N_refuseIf hS ⟨fun _ => g, fun h9 => absurd (by decide) h9⟩)) (fun h9 => absurd hr' h9)))
  have MD : ∀ {T : ZSt} {Q : ZOut → ZSt → Prop}, zSh T → zAt S T → zC m_M_isAllowed [.ref 130, .int (nI i), .int (nI 4)] (zsI T 130 0 (nI 0)) (zback m_M_kept 91 51 [some (.ref 130), some (.int (nI i)), some (.int (nI t)), some (.int (nI k)), some (.int (nI m)), some (.int (nI n)), none, none, none, none, none] [] (fun i1 l1 s1 S1 => zW 4 m_M_kept i1 l1 s1 S1 Q) (fun x S1 => Q (.inr x) S1)) → zC m_M_kept [.ref 130, .int (nI i), .int (nI t), .int (nI k), .int (nI m), .int (nI n)] T Q := fun {T Q} hT' tT g => MC hT' tT (b_M_kept_23 hT' ⟨fun h9 => absurd h9 (by decide), fun _ => w_M_kR_29 (S := zsI T 130 0 (nI 0)) hT' (vT tT).1.1 hf.1.2.2 rfl (fun _ => b_M_kept_47 hT' ⟨fun h9 => absurd h9 (by decide), fun _ => g⟩) (fun h9 => absurd hr' h9)⟩)
  by_cases al : ∀ k, k < N → okW x0 x1 x2 x3 x4 x5 N kd fa fb k
  case neg =>
    exact y_kept (res := .inl (3, 4)) hS hD hJ (fun r kk e => by cases e; omega) (OD (b_N_kept_23 hS (w_N_refuseBarred hS y1 y2 hg (fun h9 => absurd h9 al) (fun _ => zOb_bad (r := 3) (kk := 4) hS)))) (fun T hT' tT => MD hT' tT (w_M_isAllowed (S := zsI T 130 0 (nI 0)) hT' rfl y1 (y3.T0 tT) (by omega) (by omega) (vT tT) (fun h9 => absurd h9 al) (fun _ => b_M_kept_52 hT' ⟨fun h9 => absurd (by decide) h9, fun _ => zMo_bad (r := 3) (kk := 4) hT'⟩)))
  obtain ⟨k1, k2⟩ := chkF_at (m := m) (n := n) (by omega) n1
  refine y_kept (res := .inr (fL (fun i => kp N kd fa fb k cs (dgt 10 m i)) ((List.range' 0 ((n + 1) ^ m)).map (fun i => dcp (n + 1) m i m)))) hS hD hJ (fun r kk e => by cases e) (OD (b_N_kept_23 hS (w_N_refuseBarred hS y1 y2 hg (fun _ => b_N_kept_26 hS (w_N_flocksWithin (by omega) n1 hS (b_N_kept_29 hS ?_))) (fun h9 => absurd al h9)))) (fun T hT' tT => MD hT' tT (w_M_isAllowed (S := zsI T 130 0 (nI 0)) hT' rfl y1 (y3.T0 tT) (by omega) (by omega) (vT tT) (fun _ => b_M_kept_52 hT' ⟨fun _ => ?_, fun h9 => absurd (by decide) h9⟩) (fun h9 => absurd al h9)))
  · refine w_N_kept_32 (okW_al al) (by omega) (by omega) n1 ((n + 1) ^ m) 0 hS (by omega) hOW hOT (fun S' j' hS' => ⟨?_, j', hS'⟩)
    rw [fO_map (P := fun i => kp N kd fa fb k cs (dgt (n + 1) m i)) (G := fun i => kp N kd fa fb k cs (dgt 10 m i)) (g := fun i => dcp (n + 1) m i m) _ (fun x hx => congrArg (kp N kd fa fb k cs) (dgt_same (by omega) n1 (by have := List.mem_range'_1.mp hx; omega)))]
  · have tM : jTM (zsI T 130 0 (nI 0)) t cs := (hTM.T tT).cg rfl rfl rfl rfl
    have j0 : zJ [130, 144, 145, 146, 147] (zsI T 130 0 (nI 0)) (zsI (zsI (zsI T 130 0 (nI 0)) 130 34 (nI k)) 130 35 (nI t)) := (zJ.rf.I rfl).I rfl
    have yT : jWM (zsI T 130 0 (nI 0)) i N kd fa fb := y3.T0 tT
    have t34 : zI T 130 34 = - nI 1 := by rw [tT.at rfl]; exact h34
    refine w_M_kept_65 (by omega) m 0 (S := zsI (zsI (zsI T 130 0 (nI 0)) 130 34 (nI k)) 130 35 (nI t)) hT' (by omega) (w_M_kept_78 y1 (okW_al al) (by omega) (by omega) n1 (by omega) (by omega) hOT.1 (10 ^ m) 0 (S := zsI (zsI (zsI T 130 0 (nI 0)) 130 34 (nI k)) 130 35 (nI t)) hT' (by omega) (yT.J j0 rfl) (tM.J j0 rfl rfl) (by rw [zI_o (by omega), zI_s]) zI_s (fun S1 j1 s1 => ?_))
    rw [k1]
    have jx := (j0.tr j1).I (a := 130) (k := 34) (v := - nI 1) rfl
    refine ⟨rfl, zH0.tr (jx.hM rfl), (j1.sh (S := zsI (zsI (zsI T 130 0 (nI 0)) 130 34 (nI k)) 130 35 (nI t)) hT'), jx.l161, zKM0.tr (zKM.of jx rfl (fun j hj => ?_)), ?_⟩
    · by_cases e : j = 34
      · rw [e, zI_s, zI_o (by omega), t34]
      · have hj' := zkey hj
        rw [zI_o e, s1 j (by omega) (by omega), zI_o (by omega), zI_o e]
    · rw [zI_o (by omega), s1 0 (by omega) (by omega), zI_o (by omega), zI_o (by omega), zI_s]
