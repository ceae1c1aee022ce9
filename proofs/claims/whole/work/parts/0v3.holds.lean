/-! holds, cheat, hidden -/
def zIn (v : Int32) (lo hi : Nat) : Prop := ∃ k : Nat, lo ≤ k ∧ k ≤ hi ∧ v = nI k
theorem zIn_of {v : Int32} {lo hi : Nat} (hb : (Nat.blt lo 2147483648 && Nat.blt hi 2147483648) = true) (h1 : ¬ v < nI lo) (h2 : v ≤ nI hi) : zIn v lo hi := by
  obtain ⟨b1, b2⟩ := zand hb
  have t1 := zt b1
  have t2 := zt b2
  rw [zlt, t1] at h1
  rw [zle9, t2] at h2
  exact ⟨v.toInt.toNat, by omega, by omega, zofN (by omega)⟩
theorem zIn_lo {v : Int32} {lo hi : Nat} (hb : (Nat.blt lo 2147483648 && Nat.blt hi 2147483648) = true) (h : zIn v lo hi) : ¬ v < nI lo ∧ v ≤ nI hi := by
  obtain ⟨k, h1, h2, rfl⟩ := h
  obtain ⟨b1, b2⟩ := zand hb
  have b2' : hi < 2147483648 := Nat.le_of_ble_eq_true b2
  exact ⟨nI_nlt h1 (by omega), nI_le h2 (by omega)⟩
theorem w_N_isNotR {v : Int32} {lo hi : Nat} {S : ZSt} {Q : ZOut → ZSt → Prop} (hb : (Nat.blt lo 2147483648 && Nat.blt hi 2147483648) = true) (hS : zSh S) (ok : zIn v lo hi → Q (.inl (some (.int (nI 0)))) S) (bad : ¬ zIn v lo hi → Q (.inl (some (.int (nI 1)))) S) : zC m_N_isNot [.int v, .int (nI lo), .int (nI hi)] S Q :=
  b_N_isNot hS ⟨fun h1 => ⟨rfl, bad (fun h => (zIn_lo hb h).1 h1)⟩, fun h1 => ⟨fun h2 => ⟨rfl, ok (zIn_of hb h1 h2)⟩, fun h2 => ⟨rfl, bad (fun h => h2 (zIn_lo hb h).2)⟩⟩⟩
theorem w_M_withinR {v : Int32} {lo hi : Nat} {S : ZSt} {Q : ZOut → ZSt → Prop} (hb : (Nat.blt lo 2147483648 && Nat.blt hi 2147483648) = true) (hS : zSh S) (ok : zIn v lo hi → Q (.inl (some (.int (nI 1)))) S) (bad : ¬ zIn v lo hi → Q (.inl (some (.int (nI 0)))) S) : zC m_M_within [.int v, .int (nI lo), .int (nI hi)] S Q :=
  b_M_within hS ⟨fun h1 => ⟨rfl, bad (fun h => (zIn_lo hb h).1 h1)⟩, fun h1 => ⟨fun h2 => ⟨rfl, bad (fun h => Int32.not_lt.mpr (zIn_lo hb h).2 h2)⟩, fun h2 => ⟨rfl, ok (zIn_of hb h1 (Int32.not_lt.mp h2))⟩⟩⟩
theorem zpick (n : Nat) (v : Int32) : (∀ i, i < n → v ≠ nI i) ∨ ∃ i, i < n ∧ v = nI i := by
  by_cases h : ∃ i, i < n ∧ v = nI i
  · exact Or.inr h
  · exact Or.inl (fun i hi e => h ⟨i, hi, e⟩)
/-- below a number that was counted -/
theorem w_N_isNotU {v : Int32} {A : Nat} {S : ZSt} {Q : ZOut → ZSt → Prop} (hA : A ≤ 100000) (hS : zSh S) (ok : (∃ i, i < A ∧ v = nI i) → Q (.inl (some (.int (nI 0)))) S) (bad : (∀ i, i < A → v ≠ nI i) → Q (.inl (some (.int (nI 1)))) S) : zC m_N_isNot [.int v, .int (nI 0), .int (nI A - nI 1)] S Q := by
  rcases zpick A v with hx | hx
  · exact b_N_isNot hS ⟨fun _ => ⟨rfl, bad hx⟩, fun h1 => ⟨fun h2 => (by
      obtain ⟨i, hi, e⟩ := way_in2 hA h1 (Int32.not_lt.mpr h2)
      exact absurd e (hx i hi)), fun _ => ⟨rfl, bad hx⟩⟩⟩
  · have hx' := hx
    obtain ⟨i, hi, rfl⟩ := hx
    rw [zsub1 (by omega)]
    exact w_N_isNot0 hS (nI_nlt (by omega) (by omega)) (nI_le (by omega) (by omega)) (ok hx')
theorem w_M_isHowR {v : Int32} {S : ZSt} {Q : ZOut → ZSt → Prop} (hS : zSh S) (ok : zIn v 0 1 → Q (.inl (some (.int (nI 1)))) S) (bad : ¬ zIn v 0 1 → Q (.inl (some (.int (nI 0)))) S) : zC m_M_isHow [.ref 130, .int v] S Q :=
  b_M_isHow hS ⟨fun h1 => ⟨rfl, ok ⟨0, by omega, by omega, h1.trans nI_0.symm⟩⟩, fun h1 => ⟨fun h2 => ⟨rfl, bad (fun ⟨k, a, b, e⟩ => by
    rcases (show k = 0 ∨ k = 1 by omega) with rfl | rfl
    · exact h1 (e.trans nI_0)
    · exact h2 e)⟩, fun h2 => ⟨rfl, ok ⟨1, by omega, by omega, Classical.not_not.mp h2⟩⟩⟩⟩
theorem w_N_theWay0 {wc : Nat} {v1 : Int32} {S : ZSt} {Q : ZOut → ZSt → Prop} (hS : zSh S) (h6 : zI S 75 6 = nI wc) (hwc : wc ≤ 6) (hx : ∀ i, i < wc → v1 ≠ nI i) (hr : ∀ i, i < wc → ∃ o, zR S 90 i = some o) (bad : Q (.inr 3) (zThr (zsI S 105 0 (zI S 105 0 + nI 1)))) : zC m_N_theWay [.ref 75, .int v1] S Q := w_N_theWay hS h6 hwc hr (fun i _ hi e _ => absurd e (hx i hi)) (fun _ => bad)
theorem w_N_theWay1 {wc i o : Nat} {S : ZSt} {Q : ZOut → ZSt → Prop} (hS : zSh S) (h6 : zI S 75 6 = nI wc) (hwc : wc ≤ 6) (hi : i < wc) (ho : zR S 90 i = some o) (hr : ∀ i, i < wc → ∃ o, zR S 90 i = some o) (ok : Q (.inl (some (.ref o))) S) : zC m_N_theWay [.ref 75, .int (nI i)] S Q := w_N_theWay hS h6 hwc hr (fun i' o' hi' e ho' => by
  obtain rfl : i = i' := nEq (by omega) (by omega) e
  obtain rfl : o' = o := Option.some.inj (ho'.symm.trans ho)
  exact ok) (fun h9 => absurd rfl (h9 i hi))
theorem w_N_theTask0 {wc : Nat} {v1 : Int32} {S : ZSt} {Q : ZOut → ZSt → Prop} (hS : zSh S) (h6 : zI S 75 7 = nI wc) (hwc : wc ≤ 6) (hx : ∀ i, i < wc → v1 ≠ nI i) (hr : ∀ i, i < wc → ∃ o, zR S 91 i = some o) (bad : Q (.inr 1) (zThr (zsI S 105 1 (zI S 105 1 + nI 1)))) : zC m_N_theTask [.ref 75, .int v1] S Q := w_N_theTask hS h6 hwc hr (fun i _ hi e _ => absurd e (hx i hi)) (fun _ => bad)
theorem w_N_theTask1 {wc i o : Nat} {S : ZSt} {Q : ZOut → ZSt → Prop} (hS : zSh S) (h6 : zI S 75 7 = nI wc) (hwc : wc ≤ 6) (hi : i < wc) (ho : zR S 91 i = some o) (hr : ∀ i, i < wc → ∃ o, zR S 91 i = some o) (ok : Q (.inl (some (.ref o))) S) : zC m_N_theTask [.ref 75, .int (nI i)] S Q := w_N_theTask hS h6 hwc hr (fun i' o' hi' e ho' => by
  obtain rfl : i = i' := nEq (by omega) (by omega) e
  obtain rfl : o' = o := Option.some.inj (ho'.symm.trans ho)
  exact ok) (fun h9 => absurd rfl (h9 i hi))
theorem w_M_isWay0 {wc : Nat} {v1 : Int32} {S : ZSt} {Q : ZOut → ZSt → Prop} (hS : zSh S) (h0 : zI S 130 0 = nI 0) (h14 : zI S 130 14 = nI wc) (hwc : wc ≤ 6) (hx : ∀ i, i < wc → v1 ≠ nI i) (bad : Q (.inl (some (.int (nI 0)))) (zsI (zsI S 130 0 (nI 1)) 131 0 (zI S 131 0 + nI 1))) : zC m_M_isWay [.ref 130, .int v1] S Q := w_M_isWay hS h0 h14 hwc (fun ⟨i, hi, e⟩ => absurd e (hx i hi)) (fun _ => bad)
theorem w_M_isWay1 {wc i : Nat} {S : ZSt} {Q : ZOut → ZSt → Prop} (hS : zSh S) (h0 : zI S 130 0 = nI 0) (h14 : zI S 130 14 = nI wc) (hwc : wc ≤ 6) (hi : i < wc) (ok : Q (.inl (some (.int (nI 1)))) S) : zC m_M_isWay [.ref 130, .int (nI i)] S Q := w_M_isWay hS h0 h14 hwc (fun _ => ok) (fun h9 => absurd rfl (h9 i hi))
theorem w_M_isTask0 {wc c : Nat} {v1 : Int32} {S : ZSt} {Q : ZOut → ZSt → Prop} (hS : zSh S) (h0 : zI S 130 0 = nI 0) (h14 : zI S 130 15 = nI wc) (hwc : wc ≤ 6) (hc : 0 < c ∧ c < 10) (hx : ∀ i, i < wc → v1 ≠ nI i) (bad : Q (.inl (some (.int (nI 0)))) (zsI (zsI S 130 0 (nI c)) 131 1 (zI S 131 1 + nI 1))) : zC m_M_isTask [.ref 130, .int v1, .int (nI c)] S Q := w_M_isTask hS h0 h14 hwc hc (fun ⟨i, hi, e⟩ => absurd e (hx i hi)) (fun _ => bad)
theorem w_M_isTask1 {wc c i : Nat} {S : ZSt} {Q : ZOut → ZSt → Prop} (hS : zSh S) (h0 : zI S 130 0 = nI 0) (h14 : zI S 130 15 = nI wc) (hwc : wc ≤ 6) (hc : 0 < c ∧ c < 10) (hi : i < wc) (ok : Q (.inl (some (.int (nI 1)))) S) : zC m_M_isTask [.ref 130, .int (nI i), .int (nI c)] S Q := w_M_isTask hS h0 h14 hwc hc (fun _ => ok) (fun h9 => absurd rfl (h9 i hi))
theorem tN {tc : Nat} {S : ZSt} (hT : ∀ i, i < tc → ∃ o2 cs, zR S 91 i = some o2 ∧ OT S o2 cs ∧ jTM S i cs) : ∀ i, i < tc → ∃ o, zR S 91 i = some o := fun i hi => by
  obtain ⟨o2, -, h, -⟩ := hT i hi
  exact ⟨o2, h⟩
theorem zBo_nar {b : Bool} : narrow .boolean (.int (zBo b)) = .int (zBo b) := by
  cases b <;> rfl
theorem zBo_or {b : Bool} : zBo b = nI 0 ∨ zBo b = nI 1 := by
  cases b
  · exact Or.inl rfl
  · exact Or.inr rfl
theorem zK36.M {T T0 T1 : ZSt} (h0 : zKM T T0) {l : List Nat} (j : zJ l T0 T1) (n0 : (zmem 136 l || (zmem 137 l || (zmem 138 l || zmem 139 l))) = false) (s : zK36 T0 T1) : zKM T T1 := h0.tr (zKM.of j n0 s.keys)
theorem zJ.l161 {l : List Nat} {S S1 : ZSt} (j : zJ l S S1) : zL S1 161 = zL S 161 := by show S1.2.1 161 = S.2.1 161; rw [j.1]
set_option maxHeartbeats 2000000 in
theorem p_holds {v1 v2 : Int32} {S : ZSt} (hS : zSh S) (hD : zStD S) (hJ : jCore S) (hw : jWays S) (hn : zWn S) (ht : jTasks S) (h34 : zI S 130 34 = - nI 1) : zC m_L_holds [.ref 75, .int v1, .int v2, .ref 161] S (zTwoR S m_M_holds [.int v1, .int v2] (zAns4B S)) := by
  obtain ⟨wc, hwc, e6, e14, hW⟩ := hw
  obtain ⟨tc, htc, e7, e15, hT⟩ := ht
  have t14 : ∀ {T}, zAt S T → zI (zsI T 130 0 (nI 0)) 130 14 = nI wc := fun {T} tT => by rw [zI_o (by omega), tT.at rfl]; exact e14
  have t15 : ∀ {T}, zAt S T → zI (zsI T 130 0 (nI 0)) 130 15 = nI tc := fun {T} tT => by rw [zI_o (by omega), tT.at rfl]; exact e15
  rcases zpick wc v1 with hx | ⟨i, hi, rfl⟩
  · refine y_holds (res := .inl (0, 1)) hS hD hJ (fun r kk e => by cases e; omega) (fun v e => by cases e) (b_N_holds hS (w_N_theWay0 hS e6 hwc hx (wN hW) (zOb_bad (r := 0) (kk := 1) hS))) (fun T hT' tT => ?_)
    exact b_M_holds hT' (w_M_isWay0 (S := zsI T 130 0 (nI 0)) hT' rfl (t14 tT) hwc hx (b_M_holds_6 hT' ⟨fun _ => ⟨rfl, zMo_bad (r := 0) (kk := 1) hT'⟩, fun h9 => absurd (by decide) h9⟩))
  obtain ⟨o, ra, rb, rc, n, kd, fa, fb, ho, hd, y1, y2, y3⟩ := hW i hi
  have OA : ∀ {Q : ZOut → ZSt → Prop}, zW 5 m_N_holds 3 [some (.ref 75), some (.int (nI i)), some (.int v2), none, none] [.ref o] S Q → zC m_N_holds [.ref 75, .int (nI i), .int v2] S Q := fun {Q} g => b_N_holds hS (w_N_theWay1 hS e6 hwc hi ho (wN hW) g)
  have MA : ∀ {T : ZSt} {Q : ZOut → ZSt → Prop}, zSh T → zAt S T → zC m_M_isTask [.ref 130, .int v2, .int (nI 2)] (zsI T 130 0 (nI 0)) (zback m_M_holds 16 10 [some (.ref 130), some (.int (nI i)), some (.int v2)] [] (fun i1 l1 s1 S1 => zW 4 m_M_holds i1 l1 s1 S1 Q) (fun x S1 => Q (.inr x) S1)) → zC m_M_holds [.ref 130, .int (nI i), .int v2] T Q := fun {T Q} hT' tT g => b_M_holds hT' (w_M_isWay1 (S := zsI T 130 0 (nI 0)) hT' rfl (t14 tT) hwc hi (b_M_holds_6 hT' ⟨fun h9 => absurd h9 (by decide), fun _ => g⟩))
  rcases zpick tc v2 with hy | ⟨t, ht, rfl⟩
  · refine y_holds (res := .inl (1, 2)) hS hD hJ (fun r kk e => by cases e; omega) (fun v e => by cases e) (OA (b_N_holds_3 hS (w_N_theTask0 hS e7 htc hy (tN hT) (zOb_bad (r := 1) (kk := 2) hS)))) (fun T hT' tT => MA hT' tT (w_M_isTask0 (S := zsI T 130 0 (nI 0)) hT' rfl (t15 tT) htc (by omega) hy (b_M_holds_11 hT' ⟨fun _ => ⟨rfl, zMo_bad (r := 1) (kk := 2) hT'⟩, fun h9 => absurd (by decide) h9⟩)))
  obtain ⟨o2, cs, ho2, hOT, hTM⟩ := hT t ht
  have hOW := OW_of hn ho hd y1 y2
  obtain ⟨x0, x1, x2, x3, x4, x5, hf, hg⟩ := hJ.1.1.vl
  have OB : ∀ {Q : ZOut → ZSt → Prop}, zC m_N_refuseBarred [.ref 75, .ref o] S (zback m_N_holds 15 10 [some (.ref 75), some (.int (nI i)), some (.int (nI t)), some (.ref o), some (.ref o2)] [] (fun i1 l1 s1 S1 => zW 5 m_N_holds i1 l1 s1 S1 Q) (fun x S1 => Q (.inr x) S1)) → zC m_N_holds [.ref 75, .int (nI i), .int (nI t)] S Q := fun {Q} g => OA (b_N_holds_3 hS (w_N_theTask1 hS e7 htc ht ho2 (tN hT) (b_N_holds_7 hS g)))
  have MB : ∀ {T : ZSt} {Q : ZOut → ZSt → Prop}, zSh T → zAt S T → zC m_M_isAllowed [.ref 130, .int (nI i), .int (nI 3)] (zsI T 130 0 (nI 0)) (zback m_M_holds 25 15 [some (.ref 130), some (.int (nI i)), some (.int (nI t))] [] (fun i1 l1 s1 S1 => zW 4 m_M_holds i1 l1 s1 S1 Q) (fun x S1 => Q (.inr x) S1)) → zC m_M_holds [.ref 130, .int (nI i), .int (nI t)] T Q := fun {T Q} hT' tT g => MA hT' tT (w_M_isTask1 (S := zsI T 130 0 (nI 0)) hT' rfl (t15 tT) htc (by omega) ht (b_M_holds_11 hT' ⟨fun h9 => absurd h9 (by decide), fun _ => g⟩))
  have vT : ∀ {T : ZSt}, zAt S T → zVl (zI (zsI T 130 0 (nI 0)) 132) x0 x1 x2 x3 x4 x5 := fun {T} tT => by
    show zVl (zI T 132) x0 x1 x2 x3 x4 x5
    rw [tT.at rfl]
    exact hf
  by_cases al : ∀ k, k < n → okW x0 x1 x2 x3 x4 x5 n kd fa fb k
  · refine y_holds (res := .inr (zBo (met (hF S) (go n kd fa fb 2000 (hF S) (pF S) 0 0) cs))) hS hD hJ (fun r kk e => by cases e) (fun v e => by cases e; exact zBo_or) (OB (w_N_refuseBarred hS y1 y2 hg (fun _ => b_N_holds_11 hS ?_) (fun h9 => absurd al h9))) (fun T hT' tT => MB hT' tT (w_M_isAllowed (S := zsI T 130 0 (nI 0)) hT' rfl y1 (y3.T0 tT) (by omega) (by omega) (vT tT) (fun _ => b_M_holds_16 hT' ⟨fun _ => ?_, fun h9 => absurd (by decide) h9⟩) (fun h9 => absurd al h9)))
    · obtain ⟨-, ra, rb, rc, ⟨d0, d1, d2, d3⟩, y2⟩ := hOW
      refine w_Ru_startFrom hS hJ.hN hJ.pN (fun S1 j1 w1 r1 => b_N_holds_16 (j1.sh hS) ?_)
      have hS1 := j1.sh hS
      refine w_Ru_follow y1 (d0.no rfl) (d1.no rfl) (d2.no rfl) (d3.no rfl) hS1 (y2.J j1 (d0.no rfl) (d1.no rfl) (d2.no rfl) (d3.no rfl)) (by omega) y1.1 r1 (fun S2 j2 r2 => ?_)
      have hS2 := j2.sh hS1
      have h2 : zH lO S S2 := (j1.hO rfl).tr (j2.hO rfl)
      obtain ⟨t1, ta, tb, rs, t0, ⟨ta1, tb1⟩, ⟨ts1, ts2⟩, t2⟩ := hOT.H h2
      refine b_N_holds_21 hS2 ⟨t2.1, w_Tk_isMetBy (w := hF S) t1 (fun e => ta1.2 (by rw [← e]; exact ts1)) (fun e => tb1.2 (by rw [← e]; exact ts1)) (zmem_big (b := 162) rfl ts2) hS2 t2 (by rw [j2.2 107 rfl]; exact w1) r2 (go_e _ _ _ _ _) (fun S3 j3 => b_N_holds_25 (j3.sh hS2) ⟨zBo_nar, rfl, h2.tr (j3.hs ts1), j3.sh hS2⟩)⟩
    · have hF' : zFl T (hF S) (pF S) := hJ.fl.T tT
      have a0 : zSh (zsI T 130 0 (nI 0)) := hT'
      have yT : jWM (zsI T 130 0 (nI 0)) i n kd fa fb := y3.T0 tT
      have tM : jTM (zsI T 130 0 (nI 0)) t cs := (hTM.T tT).cg rfl rfl rfl rfl
      refine w_M_fromFlock a0 (fun S1 j1 g1 g2 => b_M_holds_21 (j1.sh a0) ?_)
      have hS1 := j1.sh a0
      refine w_M_goes y1 (okW_al al) (by omega) (h := hF S) (p := pF S) hS1 (yT.J j1 rfl) (by omega) (by rw [j1.2 130 rfl, zI_o (by omega), tT.at rfl]; exact h34) (fun j hj => by rw [g1 j hj]; exact hF'.1 j hj) (fun j hj => by rw [g2 j hj]; exact hF'.2 j hj) (fun S2 j2 s2 r2 => b_M_holds_27 (j2.sh hS1) ?_)
      have hS2 := j2.sh hS1
      refine w_M_isDone (w := hF S) (by omega) hOT.1 hS2 ((tM.J j1 rfl rfl).J j2 rfl rfl) (by rw [j2.2 145 rfl]; exact fun j hj => (by rw [g1 j hj]; exact hF'.1 j hj)) r2 (go_e _ _ _ _ _) (fun S3 j3 => b_M_holds_30 (j3.sh hS2) ⟨zBo_nar, rfl, ?_⟩)
      have jx : zJ [130, 144, 145, 146, 147] (zsI T 130 0 (nI 0)) S3 := ((zJ3 j1 (zsub_of rfl)).tr (zJ3 j2 (zsub_of rfl))).tr (zJ3 j3 (zsub_of rfl))
      have sx : zK36 (zsI T 130 0 (nI 0)) S3 := fun j a b => by rw [j3.2 130 rfl, s2 j a b, j1.2 130 rfl]
      exact ⟨zH0.tr (jx.hM rfl), j3.sh hS2, jx.l161, sx.M zKM0 jx rfl, (sx 0 (by omega) (by omega)).trans zI_s⟩
  · exact y_holds (res := .inl (3, 3)) hS hD hJ (fun r kk e => by cases e; omega) (fun v e => by cases e) (OB (w_N_refuseBarred hS y1 y2 hg (fun h9 => absurd h9 al) (fun _ => zOb_bad (r := 3) (kk := 3) hS))) (fun T hT' tT => MB hT' tT (w_M_isAllowed (S := zsI T 130 0 (nI 0)) hT' rfl y1 (y3.T0 tT) (by omega) (by omega) (vT tT) (fun h9 => absurd h9 al) (fun _ => b_M_holds_16 hT' ⟨fun h9 => absurd (by decide) h9, fun _ => ⟨rfl, zMo_bad (r := 3) (kk := 3) hT'⟩⟩)))
