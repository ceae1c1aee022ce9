/-! right, least: alike -/
def zRg (v3 v4 : Int32) (x0 M N : Nat) : Prop := ∃ m n : Nat, 1 ≤ m ∧ m ≤ M ∧ m ≤ x0 ∧ n ≤ N ∧ v3 = nI m ∧ v4 = nI n
theorem w_N_isNoRange {v3 v4 : Int32} {x0 M N : Nat} {S : ZSt} {Q : ZOut → ZSt → Prop} (hM : (Nat.blt 1 2147483648 && Nat.blt M 2147483648) = true) (hN : (Nat.blt 0 2147483648 && Nat.blt N 2147483648) = true) (hM2 : M ≤ 100) (hS : zSh S) (h0 : zI S 93 0 = nI x0) (hx : x0 ≤ 12) (ok : zRg v3 v4 x0 M N → Q (.inl (some (.int (nI 0)))) S) (bad : ¬ zRg v3 v4 x0 M N → Q (.inl (some (.int (nI 1)))) S) : zC m_N_isNoRange [.ref 75, .int v3, .int v4, .int (nI M), .int (nI N)] S Q := by
  refine b_N_isNoRange hS (w_N_isNotR hM hS (fun ⟨m, a1, a2, a3⟩ => b_N_isNoRange_4 hS ⟨fun h9 => absurd (by decide) h9, fun _ => ?_⟩) (fun h9 => b_N_isNoRange_4 hS ⟨fun _ => ⟨rfl, bad (fun ⟨m, n, b1, b2, b3, b4, b5, b6⟩ => h9 ⟨m, b1, b2, b5⟩)⟩, fun h8 => absurd (by decide) h8⟩))
  subst a3
  refine b_N_isNoHeap hS ⟨zinl rfl, ?_⟩
  rw [h0, pk_sub (by omega)]
  refine w_N_isNotU (by omega) hS (fun ⟨i, hi, e⟩ => b_N_isNoHeap_10 hS ⟨rfl, b_N_isNoRange_10 hS ⟨fun h9 => absurd (by decide) h9, fun _ => ?_⟩⟩) (fun h9 => b_N_isNoHeap_10 hS ⟨rfl, b_N_isNoRange_10 hS ⟨fun _ => ⟨rfl, bad (fun ⟨m', n, b1, b2, b3, b4, b5, b6⟩ => ?_)⟩, fun h8 => absurd (by decide) h8⟩⟩)
  · have e1 := nEq (by omega) (by omega) e
    exact w_N_isNotR hN hS (fun ⟨n, c1, c2, c3⟩ => b_N_isNoRange_15 hS ⟨fun _ => ⟨rfl, ok ⟨m, n, a1, a2, by omega, c2, rfl, c3⟩⟩, fun h8 => absurd (by decide) h8⟩) (fun h9 => b_N_isNoRange_15 hS ⟨fun h8 => absurd h8 (by decide), fun _ => ⟨rfl, bad (fun ⟨m', n, b1, b2, b3, b4, b5, b6⟩ => h9 ⟨n, Nat.zero_le _, b4, b6⟩)⟩⟩)
  · have e1 : m = m' := nEq (by omega) (by omega) b5
    exact h9 (m - 1) (by omega) rfl
/-- the reference's leave: range -/
theorem w_M_mR_14 {x1 x2 v3 v4 : Int32} {x0 : Nat} {S : ZSt} {Q : ZOut → ZSt → Prop} (hS : zSh S) (hx0 : zI S 132 0 = nI x0) (hx : x0 ≤ 12) (h0 : zI S 130 0 = nI 0) (ok : zRg v3 v4 x0 3 9 → zW 4 m_M_mayRight 32 [some (.ref 130), some (.int x1), some (.int x2), some (.int v3), some (.int v4)] [.int (nI 1)] S Q) (bad : ¬ zRg v3 v4 x0 3 9 → zW 4 m_M_mayRight 32 [some (.ref 130), some (.int x1), some (.int x2), some (.int v3), some (.int v4)] [.int (nI 0)] (zsI (zsI S 130 0 (nI 3)) 131 2 (zI S 131 2 + nI 1)) Q) : zC m_M_within [.int v3, .int (nI 1), .int (nI 3)] S (zback m_M_mayRight 21 13 [some (.ref 130), some (.int x1), some (.int x2), some (.int v3), some (.int v4)] [.ref 130] (fun i1 l1 s1 S1 => zW 4 m_M_mayRight i1 l1 s1 S1 Q) (fun x S1 => Q (.inr x) S1)) := by
  refine w_M_withinR rfl hS (fun ⟨m, a1, a2, a3⟩ => b_M_mayRight_14 hS ⟨fun h9 => absurd h9 (by decide), fun _ => ⟨zinl rfl, ?_⟩⟩) (fun h9 => b_M_mayRight_14 hS ⟨fun _ => w_M_may0 hS h0 (by omega) (by omega) (bad (fun ⟨m, n, b1, b2, b3, b4, b5, b6⟩ => h9 ⟨m, b1, b2, b5⟩)), fun h8 => absurd (by decide) h8⟩)
  subst a3
  rw [hx0]
  refine ⟨fun h9 => w_M_may0 hS h0 (by omega) (by omega) (bad (fun ⟨m', n, b1, b2, b3, b4, b5, b6⟩ => ?_)), fun h9 => ?_⟩
  · have e1 : m = m' := nEq (by omega) (by omega) b5
    exact absurd h9 (nI_nlt (by omega) (by omega))
  · have hm : m ≤ x0 := Nat.not_lt.mp (fun h8 => h9 (nI_lt h8 (by omega)))
    exact w_M_withinR rfl hS (fun ⟨n, c1, c2, c3⟩ => b_M_mayRight_25 hS ⟨fun h9 => absurd h9 (by decide), fun _ => w_M_may1 hS h0 (ok ⟨m, n, a1, a2, hm, c2, rfl, c3⟩)⟩) (fun h9 => b_M_mayRight_25 hS ⟨fun _ => w_M_may0 hS h0 (by omega) (by omega) (bad (fun ⟨m', n, b1, b2, b3, b4, b5, b6⟩ => h9 ⟨n, Nat.zero_le _, b4, b6⟩)), fun h8 => absurd (by decide) h8⟩)
set_option maxHeartbeats 2000000 in
theorem p_right {v1 v2 v3 v4 : Int32} {S : ZSt} (hS : zSh S) (hD : zStD S) (hJ : jCore S) (hw : jWays S) (hn : zWn S) (ht : jTasks S) (h34 : zI S 130 34 = - nI 1) : zC m_L_right [.ref 75, .int v1, .int v2, .int v3, .int v4, .ref 161] S (zTwoR S m_M_right [.int v1, .int v2, .int v3, .int v4] (zAns4 S)) := by
  obtain ⟨wc, hwc, e6, e14, hW⟩ := hw
  obtain ⟨tc, htc, e7, e15, hT⟩ := ht
  have t14 : ∀ {T}, zAt S T → zI (zsI T 130 0 (nI 0)) 130 14 = nI wc := fun {T} tT => by rw [zI_o (by omega), tT.at rfl]; exact e14
  have t15 : ∀ {T}, zAt S T → zI (zsI T 130 0 (nI 0)) 130 15 = nI tc := fun {T} tT => by rw [zI_o (by omega), tT.at rfl]; exact e15
  rcases zpick wc v1 with hx | ⟨i, hi, rfl⟩
  · refine y_right (res := .inl (0, 1)) hS hD hJ (fun r kk e => by cases e; omega) (b_N_right hS (w_N_theWay0 hS e6 hwc hx (wN hW) (zOb_bad (r := 0) (kk := 1) hS))) (fun T hT' tT => ?_)
    exact b_M_right hT' (b_M_mayRight hT' (w_M_isWay0 (S := zsI T 130 0 (nI 0)) hT' rfl (t14 tT) hwc hx (b_M_mayRight_3 hT' ⟨fun _ => ⟨rfl, b_M_right_9 hT' ⟨fun h9 => absurd (by decide) h9, fun _ => zMo_bad (r := 0) (kk := 1) hT'⟩⟩, fun h9 => absurd (by decide) h9⟩)))
  obtain ⟨o, ra, rb, rc, N, kd, fa, fb, ho, hd, y1, y2, y3⟩ := hW i hi
  have OA : ∀ {Q : ZOut → ZSt → Prop}, zW 6 m_N_right 3 [some (.ref 75), some (.int (nI i)), some (.int v2), some (.int v3), some (.int v4), none, none, none, none, none] [.ref o] S Q → zC m_N_right [.ref 75, .int (nI i), .int v2, .int v3, .int v4] S Q := fun {Q} g => b_N_right hS (w_N_theWay1 hS e6 hwc hi ho (wN hW) g)
  have MA : ∀ {T : ZSt} {Q : ZOut → ZSt → Prop}, zSh T → zAt S T → zW 4 m_M_mayRight 3 [some (.ref 130), some (.int (nI i)), some (.int v2), some (.int v3), some (.int v4)] [.int (nI 1)] (zsI T 130 0 (nI 0)) Q → zC m_M_mayRight [.ref 130, .int (nI i), .int v2, .int v3, .int v4] (zsI T 130 0 (nI 0)) Q := fun {T Q} hT' tT g => b_M_mayRight hT' (w_M_isWay1 (S := zsI T 130 0 (nI 0)) hT' rfl (t14 tT) hwc hi g)
  rcases zpick tc v2 with hy | ⟨t, ht, rfl⟩
  · refine y_right (res := .inl (1, 2)) hS hD hJ (fun r kk e => by cases e; omega) (OA (b_N_right_3 hS (w_N_theTask0 hS e7 htc hy (tN hT) (zOb_bad (r := 1) (kk := 2) hS)))) (fun T hT' tT => b_M_right hT' (MA hT' tT (b_M_mayRight_3 hT' ⟨fun h9 => absurd h9 (by decide), fun _ => w_M_isTask0 (S := zsI T 130 0 (nI 0)) hT' rfl (t15 tT) htc (by omega) hy (b_M_mayRight_8 hT' ⟨fun _ => ⟨rfl, b_M_right_9 hT' ⟨fun h9 => absurd (by decide) h9, fun _ => zMo_bad (r := 1) (kk := 2) hT'⟩⟩, fun h9 => absurd (by decide) h9⟩)⟩)))
  obtain ⟨o2, cs, ho2, hOT, hTM⟩ := hT t ht
  have hOW := OW_of hn ho hd y1 y2
  obtain ⟨x0, x1, x2, x3, x4, x5, hf, hg⟩ := hJ.1.1.vl
  have vT : ∀ {T : ZSt}, zAt S T → zVl (zI (zsI T 130 0 (nI 0)) 132) x0 x1 x2 x3 x4 x5 := fun {T} tT => by
    show zVl (zI T 132) x0 x1 x2 x3 x4 x5
    rw [tT.at rfl]
    exact hf
  have OB : ∀ {Q : ZOut → ZSt → Prop}, zW 6 m_N_right 7 [some (.ref 75), some (.int (nI i)), some (.int (nI t)), some (.int v3), some (.int v4), some (.ref o), none, none, none, none] [.ref o2] S Q → zC m_N_right [.ref 75, .int (nI i), .int (nI t), .int v3, .int v4] S Q := fun {Q} g => OA (b_N_right_3 hS (w_N_theTask1 hS e7 htc ht ho2 (tN hT) g))
  have MB : ∀ {T : ZSt} {Q : ZOut → ZSt → Prop}, zSh T → zAt S T → zW 4 m_M_mayRight 8 [some (.ref 130), some (.int (nI i)), some (.int (nI t)), some (.int v3), some (.int v4)] [.int (nI 1)] (zsI T 130 0 (nI 0)) Q → zC m_M_mayRight [.ref 130, .int (nI i), .int (nI t), .int v3, .int v4] (zsI T 130 0 (nI 0)) Q := fun {T Q} hT' tT g => MA hT' tT (b_M_mayRight_3 hT' ⟨fun h9 => absurd h9 (by decide), fun _ => w_M_isTask1 (S := zsI T 130 0 (nI 0)) hT' rfl (t15 tT) htc (by omega) ht g⟩)
  by_cases hr : zRg v3 v4 x0 3 9
  case neg =>
    exact y_right (res := .inl (2, 3)) hS hD hJ (fun r kk e => by cases e; omega) (OB (b_N_right_7 hS (w_N_isNoRange rfl rfl (by omega) hS hg.1.1 hg.1.2.2 (fun h9 => absurd h9 hr) (fun _ => b_N_right_15 hS (b_N_refuseIf hS ⟨fun h9 => absurd h9 (by decide), fun _ => ⟨zinl rfl, zinl rfl, zOb_bad (r := 2) (kk := 3) hS⟩⟩))))) (fun T hT' tT => b_M_right hT' (MB hT' tT (b_M_mayRight_8 hT' ⟨fun h9 => absurd h9 (by decide), fun _ => w_M_mR_14 (S := zsI T 130 0 (nI 0)) hT' (vT tT).1.1 hf.1.2.2 rfl (fun h9 => absurd h9 hr) (fun _ => b_M_mayRight_32 hT' ⟨fun _ => ⟨rfl, b_M_right_9 hT' ⟨fun h9 => absurd (by decide) h9, fun _ => zMo_bad (r := 2) (kk := 3) hT'⟩⟩, fun h9 => absurd (by decide) h9⟩)⟩)))
  have hr' := hr
  obtain ⟨m, n, m1, m2, m3, n1, rfl, rfl⟩ := hr
  have OC : ∀ {Q : ZOut → ZSt → Prop}, zW 6 m_N_right 16 [some (.ref 75), some (.int (nI i)), some (.int (nI t)), some (.int (nI m)), some (.int (nI n)), some (.ref o), some (.ref o2), none, none, none] [] S Q → zC m_N_right [.ref 75, .int (nI i), .int (nI t), .int (nI m), .int (nI n)] S Q := fun {Q} g => OB (b_N_right_7 hS (w_N_isNoRange rfl rfl (by omega) hS hg.1.1 hg.1.2.2 (fun _ => b_N_right_15 hS (b_N_refuseIf hS ⟨fun _ => g, fun h9 => absurd (by decide) h9⟩)) (fun h9 => absurd hr' h9)))
  have MC : ∀ {T : ZSt} {Q : ZOut → ZSt → Prop}, zSh T → zAt S T → zC m_M_isAllowed [.ref 130, .int (nI i), .int (nI 4)] (zsI T 130 0 (nI 0)) (zback m_M_mayRight 64 36 [some (.ref 130), some (.int (nI i)), some (.int (nI t)), some (.int (nI m)), some (.int (nI n))] [] (fun i1 l1 s1 S1 => zW 4 m_M_mayRight i1 l1 s1 S1 Q) (fun x S1 => Q (.inr x) S1)) → zC m_M_mayRight [.ref 130, .int (nI i), .int (nI t), .int (nI m), .int (nI n)] (zsI T 130 0 (nI 0)) Q := fun {T Q} hT' tT g => MB hT' tT (b_M_mayRight_8 hT' ⟨fun h9 => absurd h9 (by decide), fun _ => w_M_mR_14 (S := zsI T 130 0 (nI 0)) hT' (vT tT).1.1 hf.1.2.2 rfl (fun _ => b_M_mayRight_32 hT' ⟨fun h9 => absurd h9 (by decide), fun _ => g⟩) (fun h9 => absurd hr' h9)⟩)
  by_cases al : ∀ k, k < N → okW x0 x1 x2 x3 x4 x5 N kd fa fb k
  case neg =>
    exact y_right (res := .inl (3, 4)) hS hD hJ (fun r kk e => by cases e; omega) (OC (b_N_right_16 hS (w_N_refuseBarred hS y1 y2 hg (fun h9 => absurd h9 al) (fun _ => zOb_bad (r := 3) (kk := 4) hS)))) (fun T hT' tT => b_M_right hT' (MC hT' tT (w_M_isAllowed (S := zsI T 130 0 (nI 0)) hT' rfl y1 (y3.T0 tT) (by omega) (by omega) (vT tT) (fun h9 => absurd h9 al) (fun _ => b_M_mayRight_37 hT' ⟨fun _ => ⟨rfl, b_M_right_9 hT' ⟨fun h9 => absurd (by decide) h9, fun _ => zMo_bad (r := 3) (kk := 4) hT'⟩⟩, fun h9 => absurd (by decide) h9⟩))))
  obtain ⟨k1, k2⟩ := chkF_at (m := m) (n := n) (by omega) n1
  refine y_right (res := .inr (nI (cL (rgM N kd fa fb 2000 cs m) ((List.range' 0 ((n + 1) ^ m)).map (fun i => dcp (n + 1) m i m))))) hS hD hJ (fun r kk e => by cases e) (OC (b_N_right_16 hS (w_N_refuseBarred hS y1 y2 hg (fun _ => b_N_right_19 hS (w_N_flocksWithin (by omega) n1 hS (b_N_right_22 hS ?_))) (fun h9 => absurd al h9)))) (fun T hT' tT => b_M_right hT' (MC hT' tT (w_M_isAllowed (S := zsI T 130 0 (nI 0)) hT' rfl y1 (y3.T0 tT) (by omega) (by omega) (vT tT) (fun _ => b_M_mayRight_37 hT' ⟨fun h9 => absurd h9 (by decide), fun _ => ⟨rfl, b_M_right_9 hT' ⟨fun _ => ?_, fun h9 => absurd (by decide) h9⟩⟩⟩) (fun h9 => absurd al h9))))
  · refine w_N_right_27 (by omega) n1 ((n + 1) ^ m) 0 0 hS (by omega) hOW hOT (fun S' j' hS' => ⟨?_, j', hS'⟩)
    rw [Nat.zero_add, cL_map (P := rgO N kd fa fb cs m n) (G := rgM N kd fa fb 2000 cs m) (g := fun i => dcp (n + 1) m i m) _ (fun x hx => congrArg (mt N kd fa fb 2000 cs) (dgt_same (by omega) n1 (by have := List.mem_range'_1.mp hx; omega)))]
  · have j : zJ [130] T (zsI T 130 0 (nI 0)) := zJ.rf.I rfl
    have mv : MV (zsI T 130 0 (nI 0)) i N kd fa fb := ⟨y1, okW_al al, by omega, y3.T0 tT, by rw [zI_o (by omega), tT.at rfl]; exact h34⟩
    have tM : jTM (zsI T 130 0 (nI 0)) t cs := (hTM.T tT).cg rfl rfl rfl rfl
    refine w_M_goesAll_n (S := zsI T 130 0 (nI 0)) n1 (by omega) (by omega) (by omega) hOT.1 hT' mv tM (fun S1 j1 s1 e1 => b_M_right_20 (j1.sh hT') ?_)
    rw [k1] at e1
    rw [e1]
    exact ⟨rfl, zH0.tr (j1.hM rfl), j1.sh hT', j1.l161, zKM0.tr (zKM.of j1 rfl s1.keys), (s1 0 (by omega)).trans zI_s⟩
set_option maxHeartbeats 2000000 in
theorem p_least {v1 v2 v3 v4 : Int32} {S : ZSt} (hS : zSh S) (hD : zStD S) (hJ : jCore S) (hw : jWays S) (hn : zWn S) (ht : jTasks S) (h34 : zI S 130 34 = - nI 1) : zC m_L_least [.ref 75, .int v1, .int v2, .int v3, .int v4, .ref 161] S (zTwoR S m_M_least [.int v1, .int v2, .int v3, .int v4] (zAns4 S)) := by
  obtain ⟨wc, hwc, e6, e14, hW⟩ := hw
  obtain ⟨tc, htc, e7, e15, hT⟩ := ht
  have t14 : ∀ {T}, zAt S T → zI (zsI T 130 0 (nI 0)) 130 14 = nI wc := fun {T} tT => by rw [zI_o (by omega), tT.at rfl]; exact e14
  have t15 : ∀ {T}, zAt S T → zI (zsI T 130 0 (nI 0)) 130 15 = nI tc := fun {T} tT => by rw [zI_o (by omega), tT.at rfl]; exact e15
  rcases zpick wc v1 with hx | ⟨i, hi, rfl⟩
  · refine y_least (res := .inl (0, 1)) hS hD hJ (fun r kk e => by cases e; omega) (b_N_least hS (w_N_theWay0 hS e6 hwc hx (wN hW) (zOb_bad (r := 0) (kk := 1) hS))) (fun T hT' tT => ?_)
    exact b_M_least hT' (b_M_mayRight hT' (w_M_isWay0 (S := zsI T 130 0 (nI 0)) hT' rfl (t14 tT) hwc hx (b_M_mayRight_3 hT' ⟨fun _ => ⟨rfl, b_M_least_9 hT' ⟨fun h9 => absurd (by decide) h9, fun _ => zMo_bad (r := 0) (kk := 1) hT'⟩⟩, fun h9 => absurd (by decide) h9⟩)))
  obtain ⟨o, ra, rb, rc, N, kd, fa, fb, ho, hd, y1, y2, y3⟩ := hW i hi
  have OA : ∀ {Q : ZOut → ZSt → Prop}, zW 6 m_N_least 3 [some (.ref 75), some (.int (nI i)), some (.int v2), some (.int v3), some (.int v4), none, none, none, none] [.ref o] S Q → zC m_N_least [.ref 75, .int (nI i), .int v2, .int v3, .int v4] S Q := fun {Q} g => b_N_least hS (w_N_theWay1 hS e6 hwc hi ho (wN hW) g)
  have MA : ∀ {T : ZSt} {Q : ZOut → ZSt → Prop}, zSh T → zAt S T → zW 4 m_M_mayRight 3 [some (.ref 130), some (.int (nI i)), some (.int v2), some (.int v3), some (.int v4)] [.int (nI 1)] (zsI T 130 0 (nI 0)) Q → zC m_M_mayRight [.ref 130, .int (nI i), .int v2, .int v3, .int v4] (zsI T 130 0 (nI 0)) Q := fun {T Q} hT' tT g => b_M_mayRight hT' (w_M_isWay1 (S := zsI T 130 0 (nI 0)) hT' rfl (t14 tT) hwc hi g)
  rcases zpick tc v2 with hy | ⟨t, ht, rfl⟩
  · refine y_least (res := .inl (1, 2)) hS hD hJ (fun r kk e => by cases e; omega) (OA (b_N_least_3 hS (w_N_theTask0 hS e7 htc hy (tN hT) (zOb_bad (r := 1) (kk := 2) hS)))) (fun T hT' tT => b_M_least hT' (MA hT' tT (b_M_mayRight_3 hT' ⟨fun h9 => absurd h9 (by decide), fun _ => w_M_isTask0 (S := zsI T 130 0 (nI 0)) hT' rfl (t15 tT) htc (by omega) hy (b_M_mayRight_8 hT' ⟨fun _ => ⟨rfl, b_M_least_9 hT' ⟨fun h9 => absurd (by decide) h9, fun _ => zMo_bad (r := 1) (kk := 2) hT'⟩⟩, fun h9 => absurd (by decide) h9⟩)⟩)))
  obtain ⟨o2, cs, ho2, hOT, hTM⟩ := hT t ht
  have hOW := OW_of hn ho hd y1 y2
  obtain ⟨x0, x1, x2, x3, x4, x5, hf, hg⟩ := hJ.1.1.vl
  have vT : ∀ {T : ZSt}, zAt S T → zVl (zI (zsI T 130 0 (nI 0)) 132) x0 x1 x2 x3 x4 x5 := fun {T} tT => by
    show zVl (zI T 132) x0 x1 x2 x3 x4 x5
    rw [tT.at rfl]
    exact hf
  have OB : ∀ {Q : ZOut → ZSt → Prop}, zW 6 m_N_least 7 [some (.ref 75), some (.int (nI i)), some (.int (nI t)), some (.int v3), some (.int v4), some (.ref o), none, none, none] [.ref o2] S Q → zC m_N_least [.ref 75, .int (nI i), .int (nI t), .int v3, .int v4] S Q := fun {Q} g => OA (b_N_least_3 hS (w_N_theTask1 hS e7 htc ht ho2 (tN hT) g))
  have MB : ∀ {T : ZSt} {Q : ZOut → ZSt → Prop}, zSh T → zAt S T → zW 4 m_M_mayRight 8 [some (.ref 130), some (.int (nI i)), some (.int (nI t)), some (.int v3), some (.int v4)] [.int (nI 1)] (zsI T 130 0 (nI 0)) Q → zC m_M_mayRight [.ref 130, .int (nI i), .int (nI t), .int v3, .int v4] (zsI T 130 0 (nI 0)) Q := fun {T Q} hT' tT g => MA hT' tT (b_M_mayRight_3 hT' ⟨fun h9 => absurd h9 (by decide), fun _ => w_M_isTask1 (S := zsI T 130 0 (nI 0)) hT' rfl (t15 tT) htc (by omega) ht g⟩)
  by_cases hr : zRg v3 v4 x0 3 9
  case neg =>
    exact y_least (res := .inl (2, 3)) hS hD hJ (fun r kk e => by cases e; omega) (OB (b_N_least_7 hS (w_N_isNoRange rfl rfl (by omega) hS hg.1.1 hg.1.2.2 (fun h9 => absurd h9 hr) (fun _ => b_N_least_15 hS (b_N_refuseIf hS ⟨fun h9 => absurd h9 (by decide), fun _ => ⟨zinl rfl, zinl rfl, zOb_bad (r := 2) (kk := 3) hS⟩⟩))))) (fun T hT' tT => b_M_least hT' (MB hT' tT (b_M_mayRight_8 hT' ⟨fun h9 => absurd h9 (by decide), fun _ => w_M_mR_14 (S := zsI T 130 0 (nI 0)) hT' (vT tT).1.1 hf.1.2.2 rfl (fun h9 => absurd h9 hr) (fun _ => b_M_mayRight_32 hT' ⟨fun _ => ⟨rfl, b_M_least_9 hT' ⟨fun h9 => absurd (by decide) h9, fun _ => zMo_bad (r := 2) (kk := 3) hT'⟩⟩, fun h9 => absurd (by decide) h9⟩)⟩)))
  have hr' := hr
  obtain ⟨m, n, m1, m2, m3, n1, rfl, rfl⟩ := hr
  have OC : ∀ {Q : ZOut → ZSt → Prop}, zW 6 m_N_least 16 [some (.ref 75), some (.int (nI i)), some (.int (nI t)), some (.int (nI m)), some (.int (nI n)), some (.ref o), some (.ref o2), none, none] [] S Q → zC m_N_least [.ref 75, .int (nI i), .int (nI t), .int (nI m), .int (nI n)] S Q := fun {Q} g => OB (b_N_least_7 hS (w_N_isNoRange rfl rfl (by omega) hS hg.1.1 hg.1.2.2 (fun _ => b_N_least_15 hS (b_N_refuseIf hS ⟨fun _ => g, fun h9 => absurd (by decide) h9⟩)) (fun h9 => absurd hr' h9)))
  have MC : ∀ {T : ZSt} {Q : ZOut → ZSt → Prop}, zSh T → zAt S T → zC m_M_isAllowed [.ref 130, .int (nI i), .int (nI 4)] (zsI T 130 0 (nI 0)) (zback m_M_mayRight 64 36 [some (.ref 130), some (.int (nI i)), some (.int (nI t)), some (.int (nI m)), some (.int (nI n))] [] (fun i1 l1 s1 S1 => zW 4 m_M_mayRight i1 l1 s1 S1 Q) (fun x S1 => Q (.inr x) S1)) → zC m_M_mayRight [.ref 130, .int (nI i), .int (nI t), .int (nI m), .int (nI n)] (zsI T 130 0 (nI 0)) Q := fun {T Q} hT' tT g => MB hT' tT (b_M_mayRight_8 hT' ⟨fun h9 => absurd h9 (by decide), fun _ => w_M_mR_14 (S := zsI T 130 0 (nI 0)) hT' (vT tT).1.1 hf.1.2.2 rfl (fun _ => b_M_mayRight_32 hT' ⟨fun h9 => absurd h9 (by decide), fun _ => g⟩) (fun h9 => absurd hr' h9)⟩)
  by_cases al : ∀ k, k < N → okW x0 x1 x2 x3 x4 x5 N kd fa fb k
  case neg =>
    exact y_least (res := .inl (3, 4)) hS hD hJ (fun r kk e => by cases e; omega) (OC (b_N_least_16 hS (w_N_refuseBarred hS y1 y2 hg (fun h9 => absurd h9 al) (fun _ => zOb_bad (r := 3) (kk := 4) hS)))) (fun T hT' tT => b_M_least hT' (MC hT' tT (w_M_isAllowed (S := zsI T 130 0 (nI 0)) hT' rfl y1 (y3.T0 tT) (by omega) (by omega) (vT tT) (fun h9 => absurd h9 al) (fun _ => b_M_mayRight_37 hT' ⟨fun _ => ⟨rfl, b_M_least_9 hT' ⟨fun h9 => absurd (by decide) h9, fun _ => zMo_bad (r := 3) (kk := 4) hT'⟩⟩, fun h9 => absurd (by decide) h9⟩))))
  obtain ⟨k1, k2⟩ := chkF_at (m := m) (n := n) (by omega) n1
  refine y_least (res := .inr (fL (rgM N kd fa fb 2000 cs m) ((List.range' 0 ((n + 1) ^ m)).map (fun i => dcp (n + 1) m i m)))) hS hD hJ (fun r kk e => by cases e) (OC (b_N_least_16 hS (w_N_refuseBarred hS y1 y2 hg (fun _ => b_N_least_19 hS (w_N_flocksWithin (by omega) n1 hS (b_N_least_22 hS ?_))) (fun h9 => absurd al h9)))) (fun T hT' tT => b_M_least hT' (MC hT' tT (w_M_isAllowed (S := zsI T 130 0 (nI 0)) hT' rfl y1 (y3.T0 tT) (by omega) (by omega) (vT tT) (fun _ => b_M_mayRight_37 hT' ⟨fun h9 => absurd h9 (by decide), fun _ => ⟨rfl, b_M_least_9 hT' ⟨fun _ => ?_, fun h9 => absurd (by decide) h9⟩⟩⟩) (fun h9 => absurd al h9))))
  · refine w_N_least_25 (by omega) n1 ((n + 1) ^ m) 0 hS (by omega) hOW hOT (fun S' j' hS' => ⟨?_, j', hS'⟩)
    rw [fO_map (P := rgO N kd fa fb cs m n) (G := rgM N kd fa fb 2000 cs m) (g := fun i => dcp (n + 1) m i m) _ (fun x hx => congrArg (mt N kd fa fb 2000 cs) (dgt_same (by omega) n1 (by have := List.mem_range'_1.mp hx; omega)))]
  · have j : zJ [130] T (zsI T 130 0 (nI 0)) := zJ.rf.I rfl
    have mv : MV (zsI T 130 0 (nI 0)) i N kd fa fb := ⟨y1, okW_al al, by omega, y3.T0 tT, by rw [zI_o (by omega), tT.at rfl]; exact h34⟩
    have tM : jTM (zsI T 130 0 (nI 0)) t cs := (hTM.T tT).cg rfl rfl rfl rfl
    refine w_M_goesAll_f (S := zsI T 130 0 (nI 0)) n1 (by omega) (by omega) (by omega) hOT.1 hT' mv tM (fun S1 j1 s1 e1 => b_M_least_20 (j1.sh hT') ?_)
    rw [k1] at e1
    rw [e1]
    exact ⟨rfl, zH0.tr (j1.hM rfl), j1.sh hT', j1.l161, zKM0.tr (zKM.of j1 rfl s1.keys), (s1 0 (by omega)).trans zI_s⟩
