/-! Ways and tasks under calls that ask -/
def zOkC (S : ZSt) (c : Nat) : Prop := 162 ≤ c ∧ ¬ zStk S c
theorem zOkC.no {S : ZSt} {c : Nat} (h : zOkC S c) {l : List Nat} (hl : l.all (fun x => Nat.blt x 162) = true) : zNo l c := zmem_big hl h.1
theorem zOkC.H {l : List Nat} {S S1 : ZSt} {c : Nat} (h : zOkC S c) (j : zH l S S1) : zOkC S1 c := ⟨h.1, fun h9 => h.2 (j.stk h9)⟩
theorem zH.dy {S S1 : ZSt} (j : zH lO S S1) {c : Nat} (h : zOkC S c) : zI S1 c = zI S c := j.2.2.2 c (h.no rfl) h.2
theorem zH.n {l : List Nat} {S S1 : ZSt} (h : zH l S S1) : zn S1 = zn S := by show S1.2.2.2.1 = S.2.2.2.1; rw [h.1]
theorem zH.x {l : List Nat} {S S1 : ZSt} (h : zH l S S1) : zx S1 = zx S := by show S1.2.2.2.2.2.1 = S.2.2.2.2.2.1; rw [h.1]
/-- the object's way at o -/
def OW (S : ZSt) (o n : Nat) (kd fa fb : Nat → Nat) : Prop := zWy n kd fa fb ∧ ∃ ra rb rc, (zOkC S o ∧ zOkC S ra ∧ zOkC S rb ∧ zOkC S rc) ∧ jWO S o ra rb rc n kd fa fb
theorem OW.H {S S1 : ZSt} {o n : Nat} {kd fa fb : Nat → Nat} (h : OW S o n kd fa fb) (j : zH lO S S1) : OW S1 o n kd fa fb := by
  obtain ⟨h1, ra, rb, rc, ⟨d0, d1, d2, d3⟩, h2⟩ := h
  refine ⟨h1, ra, rb, rc, ⟨d0.H j, d1.H j, d2.H j, d3.H j⟩, ?_⟩
  have hb := d0.1
  unfold jWO zArr
  rw [j.c, j.n, j.2.1 o (by omega), j.dy d0, j.dy d1, j.dy d2, j.dy d3]
  exact h2
/-- the object's task at o2 -/
def OT (S : ZSt) (o2 : Nat) (cs : List (List (Nat × Nat))) : Prop := wfT cs ∧ ∃ ra rb rs, 162 ≤ o2 ∧ (zOkC S ra ∧ zOkC S rb) ∧ (zStk S rs ∧ 162 ≤ rs) ∧ jTO S o2 ra rb rs (flat cs)
theorem OT.H {S S1 : ZSt} {o2 : Nat} {cs : List (List (Nat × Nat))} (h : OT S o2 cs) (j : zH lO S S1) : OT S1 o2 cs := by
  obtain ⟨h1, ra, rb, rs, d0, ⟨d1, d2⟩, ⟨d3, d4⟩, h2⟩ := h
  have e := j.2.1 o2 (by omega)
  refine ⟨h1, ra, rb, rs, d0, ⟨d1.H j, d2.H j⟩, ⟨?_, d4⟩, ?_⟩
  · obtain ⟨o, a1, a2, a3⟩ := d3
    exact ⟨o, a1, by rw [j.c]; exact a2, by rw [j.2.1 o a1]; exact a3⟩
  · unfold jTO zArr
    rw [j.c, j.n, e, j.dy d1, j.dy d2]
    exact h2
def OF (S : ZSt) (h p : Nat → Nat) : Prop := jN (zI S 94) 12 1000000000 h ∧ jN (zI S 95) 24 3 p
theorem OF.H {S S1 : ZSt} {h p : Nat → Nat} (hf : OF S h p) (hD : zStD S) (j : zH lO S S1) : OF S1 h p := by
  unfold OF
  rw [j.at hD rfl, j.at (c := 95) hD rfl]
  exact hf
/-- both have the same tasks -/
def jTasks (S : ZSt) : Prop := ∃ tc, tc ≤ 6 ∧ zI S 75 7 = nI tc ∧ zI S 130 15 = nI tc ∧ ∀ i, i < tc → ∃ o2 cs, zR S 91 i = some o2 ∧ OT S o2 cs ∧ jTM S i cs
/-- no way lies where a task works -/
def zWn (S : ZSt) : Prop := ∀ i o, zR S 90 i = some o → ¬ zStk S o ∧ ∀ k q, k < 3 → zR S o k = some q → ¬ zStk S q
theorem OW_of {S : ZSt} {i o ra rb rc n : Nat} {kd fa fb : Nat → Nat} (hn : zWn S) (ho : zR S 90 i = some o) (hd : zDy S o ∧ zDy S ra ∧ zDy S rb ∧ zDy S rc) (h1 : zWy n kd fa fb) (h2 : jWO S o ra rb rc n kd fa fb) : OW S o n kd fa fb := by
  obtain ⟨d0, d1, d2, d3⟩ := hd
  obtain ⟨n0, n1⟩ := hn i o ho
  exact ⟨h1, ra, rb, rc, ⟨⟨d0.1, n0⟩, ⟨d1.1, n1 0 ra (by omega) h2.2.2.1.1⟩, ⟨d2.1, n1 1 rb (by omega) h2.2.2.1.2.1⟩, ⟨d3.1, n1 2 rc (by omega) h2.2.2.1.2.2⟩⟩, h2⟩
theorem w_N_theTask {wc : Nat} {v1 : Int32} {S : ZSt} {Q : ZOut → ZSt → Prop} (hS : zSh S) (h6 : zI S 75 7 = nI wc) (hwc : wc ≤ 6) (hr : ∀ i, i < wc → ∃ o, zR S 91 i = some o) (ok : ∀ i o, i < wc → v1 = nI i → zR S 91 i = some o → Q (.inl (some (.ref o))) S) (bad : (∀ i, i < wc → v1 ≠ nI i) → Q (.inr 1) (zThr (zsI S 105 1 (zI S 105 1 + nI 1)))) : zC m_N_theTask [.ref 75, .int v1] S Q := by
  refine b_N_theTask hS ?_
  rw [h6]
  have n90 : zn S 91 = 6 := (hS.2.1 91 (by omega) (by omega)).trans rfl
  by_cases hx : ∃ i, i < wc ∧ v1 = nI i
  · obtain ⟨i, hi, rfl⟩ := hx
    obtain ⟨o, ho⟩ := hr i hi
    rw [zsub1 (by omega)]
    refine w_N_isNot0 hS (nI_nlt (by omega) (by omega)) (nI_le (by omega) (by omega)) (b_N_theTask_7 hS ⟨fun _ => ?_, fun h9 => absurd (by decide) h9⟩)
    rw [zcl9 (by omega), n90]
    exact ⟨hS.1 91 (by omega), zin (by omega) (by omega), fun h9 => (by rw [ho] at h9; cases h9), fun r h9 => ok i r hi rfl h9⟩
  · have B : zW 2 m_N_theTask 7 [some (.ref 75), some (.int v1), none] [.int (nI 1)] S Q := b_N_theTask_7 hS ⟨fun h9 => absurd h9 (by decide), fun _ => ⟨zinl rfl, zinl rfl, bad (fun i hi e => hx ⟨i, hi, e⟩)⟩⟩
    exact b_N_isNot hS ⟨fun _ => ⟨rfl, B⟩, fun h1 => ⟨fun h2 => absurd (way_in (by omega) h1 (Int32.not_lt.mpr h2)) hx, fun _ => ⟨rfl, B⟩⟩⟩
theorem w_M_isTask {wc c : Nat} {v1 : Int32} {S : ZSt} {Q : ZOut → ZSt → Prop} (hS : zSh S) (h0 : zI S 130 0 = nI 0) (h14 : zI S 130 15 = nI wc) (hwc : wc ≤ 6) (hc : 0 < c ∧ c < 10) (ok : (∃ i, i < wc ∧ v1 = nI i) → Q (.inl (some (.int (nI 1)))) S) (bad : (∀ i, i < wc → v1 ≠ nI i) → Q (.inl (some (.int (nI 0)))) (zsI (zsI S 130 0 (nI c)) 131 1 (zI S 131 1 + nI 1))) : zC m_M_isTask [.ref 130, .int v1, .int (nI c)] S Q := by
  refine b_M_isTask hS ?_
  rw [h14]
  by_cases hx : ∃ i, i < wc ∧ v1 = nI i
  · have hx' := hx
    obtain ⟨i, hi, rfl⟩ := hx
    rw [zsub1 (by omega)]
    exact w_M_within1 hS (nI_nlt (by omega) (by omega)) (nI_nlt (by omega) (by omega)) (b_M_isTask_8 hS (w_M_may1 hS h0 (b_M_isTask_11 hS ⟨rfl, ok hx'⟩)))
  · have B : zW 2 m_M_isTask 8 [some (.ref 130), some (.int v1), some (.int (nI c))] [.int (nI 0), .ref 130] S Q := b_M_isTask_8 hS (w_M_may0 hS h0 hc (by omega) (b_M_isTask_11 hS ⟨rfl, bad (fun i hi e => hx ⟨i, hi, e⟩)⟩))
    exact b_M_within hS ⟨fun _ => ⟨rfl, B⟩, fun h1 => ⟨fun _ => ⟨rfl, B⟩, fun h2 => absurd (way_in (by omega) h1 h2) hx⟩⟩
theorem zOb_bad {S : ZSt} {r kk : Nat} (hS : zSh S) : zOb S (.inl (r, kk)) (.inr (xk r)) (zThr (zsI S 105 r (zI S 105 r + nI 1))) := ⟨rfl, S, zH.rf, hS, rfl⟩
theorem zOb_badH {S Sc : ZSt} {r kk : Nat} (h : zH lO S Sc) (hS : zSh Sc) : zOb S (.inl (r, kk)) (.inr (xk r)) (zThr (zsI Sc 105 r (zI Sc 105 r + nI 1))) := ⟨rfl, Sc, h, hS, rfl⟩
theorem zH0 {T : ZSt} : zH lM T (zsI T 130 0 (nI 0)) := (zJ.rf.I rfl).h
theorem zKM.s0 {T T1 : ZSt} (h : zKM T T1) {v : Int32} : zKM T (zsI T1 130 0 v) := ⟨fun j hj => by rw [zI_o (by have := zkey hj; omega)]; exact h.1 j hj, h.2.1, h.2.2⟩
theorem zKM0 {T : ZSt} {v : Int32} : zKM T (zsI T 130 0 v) := zKM.rf.s0
theorem zMo_bad {T : ZSt} {r kk : Nat} (hT : zSh T) : zMo T (.inl (r, kk)) (.inl (some (.int (nI 0)))) (zsI (zsI (zsI T 130 0 (nI 0)) 130 0 (nI kk)) 131 r (zI (zsI T 130 0 (nI 0)) 131 r + nI 1)) := ⟨zsI T 130 0 (nI 0), rfl, zH0, hT, rfl, zKM0, rfl⟩
theorem zMo_badH {T T1 : ZSt} {r kk : Nat} (h : zH lM T T1) (hk : zKM T T1) (hl : zL T1 161 = zL T 161) (hT : zSh T1) : zMo T (.inl (r, kk)) (.inl (some (.int (nI 0)))) (zsI (zsI T1 130 0 (nI kk)) 131 r (zI T1 131 r + nI 1)) := ⟨T1, rfl, h, hT, hl, hk, rfl⟩
theorem zAt.at {S T : ZSt} (h : zAt S T) {c : Nat} (hc : (Nat.ble 130 c && Nat.blt c 162) = true) : zI T c = zI S c := by
  obtain ⟨h1, h2⟩ := zand hc
  exact h c (Nat.le_of_ble_eq_true h1) (Nat.le_of_ble_eq_true h2)
theorem jWM.cg {S T : ZSt} {q n : Nat} {kd fa fb : Nat → Nat} (h : jWM S q n kd fa fb) (e6 : zI T 136 = zI S 136) (e7 : zI T 137 = zI S 137) (e8 : zI T 138 = zI S 138) (e9 : zI T 139 = zI S 139) : jWM T q n kd fa fb := by
  unfold jWM
  rw [e6, e7, e8, e9]
  exact h
theorem jWM.T {S T : ZSt} {q n : Nat} {kd fa fb : Nat → Nat} (h : jWM S q n kd fa fb) (hT : zAt S T) : jWM T q n kd fa fb := h.cg (hT.at rfl) (hT.at rfl) (hT.at rfl) (hT.at rfl)
theorem jWM.T0 {S T : ZSt} {q n : Nat} {kd fa fb : Nat → Nat} {v : Int32} (h : jWM S q n kd fa fb) (hT : zAt S T) : jWM (zsI T 130 0 v) q n kd fa fb := (h.T hT).cg rfl rfl rfl rfl
theorem jTM.cg {S T : ZSt} {t : Nat} {cs : List (List (Nat × Nat))} (h : jTM S t cs) (e0 : zI T 140 = zI S 140) (e1 : zI T 141 = zI S 141) (e2 : zI T 142 = zI S 142) (e3 : zI T 143 = zI S 143) : jTM T t cs := by
  obtain ⟨h1, f, h2, h3⟩ := h
  exact ⟨by rw [e2]; exact h1, f, h2.cg e0 e1 e3, h3⟩
theorem jTM.T {S T : ZSt} {t : Nat} {cs : List (List (Nat × Nat))} (h : jTM S t cs) (hT : zAt S T) : jTM T t cs := h.cg (hT.at rfl) (hT.at rfl) (hT.at rfl) (hT.at rfl)
theorem zFl.T {S T : ZSt} {h p : Nat → Nat} (hf : zFl S h p) (hT : zAt S T) : zFl T h p := by
  unfold zFl
  rw [hT.at (c := 132) rfl]
  exact hf
theorem go_e {n : Nat} {kd fa fb : Nat → Nat} : ∀ (f m t : Nat) (h p : Nat → Nat), (go n kd fa fb f h p t m).2.2.2.2.1 ≤ 3
  | 0, m, t, h, p => Nat.le_refl _
  | f + 1, m, t, h, p => by
    cases hq : dox (kd t) (fa t) (fb t) h p with
    | none =>
      rw [go_n hq]
      show 2 ≤ 3
      omega
    | some q =>
      rw [go_s hq]
      split
      · exact go_e f _ _ _ _
      · show (mvr n (kd t) (fa t) (fb t) t q.1 q.2).2.1 ≤ 3
        unfold mvr
        split
        · show 1 ≤ 3
          omega
        · split
          · show 0 ≤ 3
            omega
          · show (if _ then 0 else 3) ≤ 3
            split <;> omega
theorem mvr_e {n k a b t : Nat} {h p : Nat → Nat} : (mvr n k a b t h p).2.1 ≤ 3 := by
  unfold mvr
  split
  · show 1 ≤ 3
    omega
  · split
    · show 0 ≤ 3
      omega
    · show (if _ then 0 else 3) ≤ 3
      split <;> omega
theorem wr_e {n : Nat} {kd fa fb : Nat → Nat} {how t m : Nat} {h p : Nat → Nat} (hh : how ≤ 1) : (wr n kd fa fb how h p t m).2.2.2.2.1 ≤ 3 := by
  rcases (show how = 0 ∨ how = 1 by omega) with rfl | rfl
  · rw [wr_0]
    show (if _ then 0 else 3) ≤ 3
    split <;> omega
  · cases hq : dox (kd t) (fa t) (fb t) h p with
    | none =>
      rw [wr_1n hq]
      show 2 ≤ 3
      omega
    | some q =>
      cases hr : dox (kd t) (fa t) (fb t) q.1 q.2 with
      | none =>
        rw [wr_1s hq hr]
        show 2 ≤ 3
        omega
      | some r =>
        rw [wr_1d hq hr]
        exact mvr_e
theorem gow_le {n : Nat} {kd fa fb : Nat → Nat} {lim k how : Nat} {h p : Nat → Nat} (hh : how ≤ 1) : (gow n kd fa fb lim k how h p).2.2.2.2.1 ≤ 3 := by
  unfold gow
  simp only
  split
  · split
    · exact go_e _ _ _ _ _
    · exact wr_e hh
  · exact go_e _ _ _ _ _
/-- a run that is asked whether it does a task -/
theorem w_N_isFound {o o2 n k how : Nat} {kd fa fb : Nat → Nat} {cs : List (List (Nat × Nat))} {h p : Nat → Nat} {S : ZSt} {Q : ZOut → ZSt → Prop} (hS : zSh S) (hw : OW S o n kd fa fb) (ht : OT S o2 cs) (hf : OF S h p) (hk : k < 2000) (hh : how ≤ 1) (hQ : ∀ S', zH lO S S' → zSh S' → Q (.inl (some (.int (zBo (!met h (gow n kd fa fb 2000 k how h p) cs))))) S') : zC m_N_isFound [.ref 75, .ref o, .ref o2, .int (nI k), .int (nI how)] S Q := by
  obtain ⟨y1, ra, rb, rc, ⟨d0, d1, d2, d3⟩, y2⟩ := hw
  refine b_N_isFound hS (w_Ru_startFrom hS hf.1 hf.2 (fun S1 j1 w1 r1 => b_N_isFound_5 (j1.sh hS) ?_))
  have hS1 := j1.sh hS
  refine w_Ru_followWrong y1 (d0.no rfl) (d1.no rfl) (d2.no rfl) (d3.no rfl) hS1 (y2.J j1 (d0.no rfl) (d1.no rfl) (d2.no rfl) (d3.no rfl)) hk hh r1 (fun S2 j2 r2 => ?_)
  have hS2 := j2.sh hS1
  have h2 : zH lO S S2 := (j1.hO rfl).tr (j2.hO rfl)
  obtain ⟨t1, ta, tb, rs, t0, ⟨ta1, tb1⟩, ⟨ts1, ts2⟩, t2⟩ := ht.H h2
  refine b_N_isFound_11 hS2 ⟨t2.1, w_Tk_isMetBy (w := h) t1 (fun e => ta1.2 (by rw [← e]; exact ts1)) (fun e => tb1.2 (by rw [← e]; exact ts1)) (zmem_big (b := 162) rfl ts2) hS2 t2 (by rw [j2.2 107 rfl]; exact w1) r2 (gow_le hh) (fun S3 j3 => ?_)⟩
  have hS3 := j3.sh hS2
  have h3 : zH lO S S3 := h2.tr (j3.hs ts1)
  have hq := hQ S3 h3 hS3
  cases hb : met h (gow n kd fa fb 2000 k how h p) cs with
  | false =>
    rw [hb] at hq
    exact b_N_isFound_15 hS3 ⟨fun h9 => absurd (by decide) h9, fun _ => ⟨rfl, hq⟩⟩
  | true =>
    rw [hb] at hq
    exact b_N_isFound_15 hS3 ⟨fun _ => ⟨rfl, hq⟩, fun h9 => absurd (by decide) h9⟩
/-- what the reference knows of a way and the flock -/
def MW (T : ZSt) (q n : Nat) (kd fa fb : Nat → Nat) (h p : Nat → Nat) : Prop := zWy n kd fa fb ∧ zAl n kd fa fb ∧ q ≤ 6 ∧ jWM T q n kd fa fb ∧ zFl T h p ∧ zI T 130 34 = - nI 1
theorem MW.J {l : List Nat} {T T1 : ZSt} {q n : Nat} {kd fa fb : Nat → Nat} {h p : Nat → Nat} (hw : MW T q n kd fa fb h p) (j : zJ l T T1) (n0 : (zmem 136 l || (zmem 137 l || (zmem 138 l || zmem 139 l))) = false) (n1 : zmem 132 l = false) (e : zI T1 130 34 = zI T 130 34) : MW T1 q n kd fa fb h p := ⟨hw.1, hw.2.1, hw.2.2.1, hw.2.2.2.1.J j n0, hw.2.2.2.2.1.J j n1, e.trans hw.2.2.2.2.2⟩
theorem w_M_isFound {q n k how t : Nat} {kd fa fb : Nat → Nat} {cs : List (List (Nat × Nat))} {h p : Nat → Nat} {S : ZSt} {Q : ZOut → ZSt → Prop} (hS : zSh S) (hw : MW S q n kd fa fb h p) (ht : t < 6) (hf : wfT cs) (hT : jTM S t cs) (hk : k < 2000) (hh : how ≤ 1) (hQ : ∀ S', zJ [130, 144, 145, 146, 147] S S' → zK36 S S' → Q (.inl (some (.int (zBo (!met h (gow n kd fa fb 2000 k how h p) cs))))) S') : zC m_M_isFound [.ref 130, .int (nI q), .int (nI t), .int (nI k), .int (nI how)] S Q := by
  obtain ⟨y1, hA, hq, y3, hF, h34⟩ := hw
  refine b_M_isFound hS (w_M_fromFlock hS (fun S1 j1 g1 g2 => b_M_isFound_2 (j1.sh hS) ?_))
  have hS1 := j1.sh hS
  refine w_M_goesW y1 hA hq (h := h) (p := p) hS1 (y3.J j1 rfl) (by omega) hk hh (by rw [j1.2 130 rfl]; exact h34) (fun j hj => by rw [g1 j hj]; exact hF.1 j hj) (fun j hj => by rw [g2 j hj]; exact hF.2 j hj) (fun S2 j2 s2 r2 => b_M_isFound_8 (j2.sh hS1) ?_)
  have hS2 := j2.sh hS1
  refine w_M_isDone (w := h) ht hf hS2 ((hT.J j1 rfl rfl).J j2 rfl rfl) (by rw [j2.2 145 rfl]; exact fun j hj => (by rw [g1 j hj]; exact hF.1 j hj)) r2 (gow_le hh) (fun S3 j3 => ?_)
  have hS3 := j3.sh hS2
  have hq := hQ S3 (((zJ3 j1 (zsub_of rfl)).tr (zJ3 j2 (zsub_of rfl))).tr (zJ3 j3 (zsub_of rfl))) (fun j a b => by rw [j3.2 130 rfl, s2 j a b, j1.2 130 rfl])
  cases hb : met h (gow n kd fa fb 2000 k how h p) cs with
  | false =>
    rw [hb] at hq
    exact b_M_isFound_11 hS3 ⟨fun h9 => absurd (by decide) h9, fun _ => ⟨rfl, hq⟩⟩
  | true =>
    rw [hb] at hq
    exact b_M_isFound_11 hS3 ⟨fun _ => ⟨rfl, hq⟩, fun h9 => absurd (by decide) h9⟩
