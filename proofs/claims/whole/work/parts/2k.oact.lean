/-! A TASK's text, the object's reader: its acts -/
theorem sW_t : sW 11 = [sV 69] ∧ sW 13 = [sV 61, sV 63, sV 65, sV 67] ∧ sW 19 = [sV 73, sV 71] ∧ sW 7 = [sV 61, sV 63, sV 65, sV 67, sV 69] := by decide +kernel
theorem sG_t : ((sB 15).length = 4 ∧ sG 15 0 = 43 ∧ sG 15 1 = 45 ∧ sG 15 2 = 42 ∧ sG 15 3 = 47) ∧ ((sB 17).length = 3 ∧ sG 17 0 = 60 ∧ sG 17 1 = 62 ∧ sG 17 2 = 61) ∧ ((sB 9).length = 2 ∧ sG 9 0 = 40 ∧ sG 9 1 = 91) := by decide +kernel
theorem sx15 {c : Nat} : six (sG 15) (sB 15).length 0 c = if sj c = 0 then - nI 1 else nI (sj c - 5) := by
  obtain ⟨⟨e, g0, g1, g2, g3⟩, -, -⟩ := sG_t
  rw [e]
  show (if c = sG 15 0 then nI 0 else if c = sG 15 1 then nI 1 else if c = sG 15 2 then nI 2 else if c = sG 15 3 then nI 3 else - nI 1) = _
  rw [g0, g1, g2, g3]
  by_cases h0 : c = 43
  · subst h0
    rfl
  · by_cases h1 : c = 45
    · subst h1
      rfl
    · by_cases h2 : c = 42
      · subst h2
        rfl
      · by_cases h3 : c = 47
        · subst h3
          rfl
        · have last : sj c = 0 := by
            unfold sj
            rw [if_neg h0, if_neg h1, if_neg h2, if_neg h3]
          rw [if_neg h0, if_neg h1, if_neg h2, if_neg h3, last]
          rfl
theorem sx17 {c : Nat} : six (sG 17) (sB 17).length 0 c = if sc c = 0 then - nI 1 else nI (sc c - 9) := by
  obtain ⟨-, ⟨e, g0, g1, g2⟩, -⟩ := sG_t
  rw [e]
  show (if c = sG 17 0 then nI 0 else if c = sG 17 1 then nI 1 else if c = sG 17 2 then nI 2 else - nI 1) = _
  rw [g0, g1, g2]
  by_cases h0 : c = 60
  · subst h0
    rfl
  · by_cases h1 : c = 62
    · subst h1
      rfl
    · by_cases h2 : c = 61
      · subst h2
        rfl
      · have last : sc c = 0 := by
          unfold sc
          rw [if_neg h0, if_neg h1, if_neg h2]
        rw [if_neg h0, if_neg h1, if_neg h2, last]
        rfl
theorem wx11 {w : Nat} : wix (sW 11) w 0 = if w = sV 69 then nI 0 else - nI 1 := by
  rw [sW_t.1]
  rfl
theorem wx13 {w : Nat} : wix (sW 13) w 0 = if vwd w = 0 then - nI 1 else nI (vwd w - 1) := by
  rw [sW_t.2.1]
  show (if w = sV 61 then nI 0 else if w = sV 63 then nI 1 else if w = sV 65 then nI 2 else if w = sV 67 then nI 3 else - nI 1) = _
  by_cases h0 : w = sV 61
  · have l : vwd w = 1 := if_pos h0
    rw [if_pos h0, l]
    rfl
  · by_cases h1 : w = sV 63
    · have l : vwd w = 2 := by
        unfold vwd
        rw [if_neg h0, if_pos h1]
      rw [if_neg h0, if_pos h1, l]
      rfl
    · by_cases h2 : w = sV 65
      · have l : vwd w = 3 := by
          unfold vwd
          rw [if_neg h0, if_neg h1, if_pos h2]
        rw [if_neg h0, if_neg h1, if_pos h2, l]
        rfl
      · by_cases h3 : w = sV 67
        · have l : vwd w = 4 := by
            unfold vwd
            rw [if_neg h0, if_neg h1, if_neg h2, if_pos h3]
          rw [if_neg h0, if_neg h1, if_neg h2, if_pos h3, l]
          rfl
        · have l : vwd w = 0 := by
            unfold vwd
            rw [if_neg h0, if_neg h1, if_neg h2, if_neg h3]
          rw [if_neg h0, if_neg h1, if_neg h2, if_neg h3, l]
          rfl
theorem wx19 {w : Nat} : wix (sW 19) w 0 = if sw w = 0 then - nI 1 else nI (sw w - 12) := by
  rw [sW_t.2.2.1]
  show (if w = sV 73 then nI 0 else if w = sV 71 then nI 1 else - nI 1) = _
  by_cases h0 : w = sV 73
  · have l : sw w = 12 := if_pos h0
    rw [if_pos h0, l]
    rfl
  · by_cases h1 : w = sV 71
    · have l : sw w = 13 := by
        unfold sw
        rw [if_neg h0, if_pos h1]
      rw [if_neg h0, if_pos h1, l]
      rfl
    · have l : sw w = 0 := by
        unfold sw
        rw [if_neg h0, if_neg h1]
      rw [if_neg h0, if_neg h1, l]
      rfl
theorem wof_ll {r : Nat} : ∀ (W : List Nat) (op : Nat) (o : List (Nat × Nat)), (wof r W op o).1.length + (wof r W op o).2.2.length = W.length + o.length
  | [], _, _ => rfl
  | s :: W, op, o => by
    by_cases c : r ≤ ran s
    · rw [wof_s c, wof_ll W, List.length_append]
      show W.length + (o.length + 1) = W.length + 1 + o.length
      omega
    · rw [wof_lt (show trw (s :: W) < r from Nat.lt_of_not_le c)]
theorem wof_l1 {r : Nat} : ∀ (W : List Nat) (op : Nat) (o : List (Nat × Nat)), (wof r W op o).1.length ≤ W.length
  | [], _, _ => Nat.le_refl _
  | s :: W, op, o => by
    by_cases c : r ≤ ran s
    · rw [wof_s c]
      exact Nat.le_succ_of_le (wof_l1 W _ _)
    · rw [wof_lt (show trw (s :: W) < r from Nat.lt_of_not_le c)]
      exact Nat.le_refl _
theorem rn1 : ∀ s, s < 14 → 5 ≤ s → 1 ≤ ran s := by decide
theorem sh76 {S : ZSt} {x y : Int32} (hS : zSh S) : zSh (zsI (zsI S 76 7 x) 76 8 y) := ((zJ.rf (l := [76])).I rfl |>.I rfl |>.sh) hS
theorem mx0 {n : Nat} (h : n < 1000) : (if nI 0 < nI n then nI n else nI 0) = nI n := by
  by_cases c : 0 < n
  · exact if_pos (nI_lt c (by omega))
  · have e : n = 0 := by omega
    rw [e]
    exact if_neg (fun h9 => absurd ((nI_ltI (by omega) (by omega)).mp h9) (by omega))
theorem w_TR_awaitValue {x lv bb ev cp : Bool} {S : ZSt} {Q : ZOut → ZSt → Prop} (hS : zSh S) (h : jFg S lv bb ev cp) (hQ : ∀ S', zJ [86, 87, 88, 89] S S' → (∀ j, j < 6 ∨ 9 < j → zI S' 86 j = zI S 86 j) → (∀ c, c ≠ 86 → zI S' c = zI S c) → jFg S' true x ev (if x = true then false else cp) → Q (.inl none) S') : zC m_TR_awaitValue [.ref 86, .int (bo x)] S Q := by
  cases x with
  | false =>
    refine b_TR_awaitValue hS ⟨by decide, by decide, fun _ => hQ _ ((zJ.rf.I rfl).I rfl) (fun j hj => by rw [zI_o (by omega), zI_o (by omega)]) (fun c hc => by rw [zI_ne _ _ hc, zI_ne _ _ hc]) ⟨⟨?_, ?_⟩, ?_, ?_⟩, fun h9 => absurd (by decide) h9⟩
    · exact Eq.trans (zI_o (by omega)) zI_s
    · exact zI_s
    · rw [zI_o (by omega), zI_o (by omega)]
      exact h.2.1
    · exact Eq.trans (zI_o (by omega)) (Eq.trans (zI_o (by omega)) h.2.2)
  | true =>
    refine b_TR_awaitValue hS ⟨by decide, by decide, fun h9 => absurd h9 (by decide), fun _ => ⟨by decide, hQ _ (((zJ.rf.I rfl).I rfl).I rfl) (fun j hj => by rw [zI_o (by omega), zI_o (by omega), zI_o (by omega)]) (fun c hc => by rw [zI_ne _ _ hc, zI_ne _ _ hc, zI_ne _ _ hc]) ⟨⟨?_, ?_⟩, ?_, ?_⟩⟩⟩
    · exact Eq.trans (zI_o (by omega)) (Eq.trans (zI_o (by omega)) zI_s)
    · exact Eq.trans (zI_o (by omega)) zI_s
    · rw [zI_o (by omega), zI_o (by omega), zI_o (by omega)]
      exact h.2.1
    · exact zI_s
theorem w_TR_complete {x lv bb ev cp : Bool} {S : ZSt} {Q : ZOut → ZSt → Prop} (hS : zSh S) (h : jFg S lv bb ev cp) (hQ : ∀ S', zJ [86, 87, 88, 89] S S' → (∀ j, j < 6 ∨ 9 < j → zI S' 86 j = zI S 86 j) → (∀ c, c ≠ 86 → zI S' c = zI S c) → jFg S' false bb x cp → Q (.inl none) S') : zC m_TR_complete [.ref 86, .int (bo x)] S Q := by
  refine b_TR_complete hS ⟨by decide, by cases x <;> decide, hQ _ ((zJ.rf.I rfl).I rfl) (fun j hj => by rw [zI_o (by omega), zI_o (by omega)]) (fun c hc => by rw [zI_ne _ _ hc, zI_ne _ _ hc]) ⟨⟨?_, ?_⟩, ?_, ?_⟩⟩
  · exact Eq.trans (zI_o (by omega)) zI_s
  · exact Eq.trans (zI_o (by omega)) (Eq.trans (zI_o (by omega)) h.1.2)
  · rw [zI_s]
    cases x with
    | false => exact ⟨fun _ => rfl, fun _ => by decide⟩
    | true => exact ⟨fun h9 => absurd h9 (by decide), fun h9 => by cases h9⟩
  · exact Eq.trans (zI_o (by omega)) (Eq.trans (zI_o (by omega)) h.2.2)
/-- something opens -/
theorem w_TR_opens {b : Nat → Nat} {e p s op : Nat} {W : List Nat} {O : List (Nat × Nat)} {lv bb ev cp x : Bool} {S : ZSt} {Q : ZOut → ZSt → Prop} (hs : (s = 16 ∧ x = false) ∨ ((s = 17 ∨ s = 14) ∧ x = true)) (hS : zSh S) (hx : jTx S b e) (hp : p ≤ e) (ht : jTo S b e p) (hf : jFg S lv bb ev cp) (hw : jWa S W op) (ho : jOu S O) (h32 : W.length < 32) (h6 : op ≤ 6)
    (bad : 6 ≤ op → ∀ S', zTj S S' → zI S' 76 7 = nI 3 → zI S' 76 8 = nI (tkS b e p) → Q (.inl (some (.int (nI 0)))) S')
    (ok : op < 6 → ∀ S', zTj S S' → jTo S' b e (tkE b e p) → jFg S' true x ev (if x = true then false else cp) → jWa S' (s :: W) (op + 1) → jOu S' O → zI S' 76 8 = zI S 76 8 → zI S' 86 10 = zI S 86 10 → Q (.inl (some (.int (nI 1)))) S') : zC m_TR_opens [.ref 86, .ref 76, .int (nI s)] S Q := by
  refine b_TR_opens hS ?_
  rw [hw.2.1, nI_add]
  refine ⟨fun h9 => ?_, fun h9 => w_Ta_refuse hS ?_⟩
  · have o6 : op < 6 := (nI_ltI (by omega) (by omega)).mp h9
    have j1 : zJ [86, 87, 88, 89] S (zsI S 86 5 (nI (op + 1))) := zJ.rf.I rfl
    have hS1 := j1.sh hS
    have e9 : zI (zsI S 86 5 (nI (op + 1))) 89 = zI S 89 := zI_ne _ _ (by omega)
    have hw1 : jWa (zsI S 86 5 (nI (op + 1))) W (op + 1) := ⟨Eq.trans (zI_o (by omega)) hw.1, zI_s, by rw [e9]; exact hw.2.2⟩
    refine w_TR_letWait hS1 hw1 h32 (by omega) (fun S2 j2 f2 g7 g8 w2 => b_TR_opens_17 (j2.sh hS1) (w_Ta_advance (p := tkE b e p) (j2.sh hS1) (hx.j (j1.tr j2).j) (tkE_le hp) ?_ (fun S3 j3 t3 => b_TR_opens_19 (j3.1.sh (j2.sh hS1)) ?_)))
    · rw [(j1.tr j2).2 76 rfl]
      exact ht.2.1
    · have hS3 := j3.1.sh (j2.sh hS1)
      have e86 : zI S3 86 = zI S2 86 := j3.1.2 86 rfl
      have f3 : jFg S3 lv bb ev cp := hf.c (fun j hj => by rw [e86, f2 j (by omega), zI_o (by omega)])
      have K : zcl 3 m_TR_opens m_TR_awaitValue 46 26 [some (.ref 86), some (.ref 76), some (.int (nI s))] [] [.ref 86, .int (bo x)] S3 Q := w_TR_awaitValue hS3 f3 (fun S4 j4 a4 c4 fl => b_TR_opens_27 (j4.sh hS3) ⟨by decide, ok o6 S4 (((j1.tr j2).j.tr j3.j).tr j4.j) (t3.c (c4 76 (by omega))) fl (w2.c ?_ ?_ ?_) (ho.c ?_ ?_ ?_) ?_ ?_⟩)
      · rcases hs with ⟨rfl, rfl⟩ | ⟨hs, rfl⟩
        · exact ⟨fun _ => K, fun h9 => absurd rfl h9⟩
        · exact ⟨fun h9 => absurd (nEq (by omega) (by omega) h9) (by omega), fun _ => K⟩
      · rw [a4 4 (by omega), e86]
      · rw [a4 5 (by omega), e86]
      · rw [c4 89 (by omega), j3.1.2 89 rfl]
      · rw [a4 2 (by omega), e86, f2 2 (by omega), zI_o (by omega)]
      · rw [c4 87 (by omega), j3.1.2 87 rfl, g7, zI_ne _ _ (by omega)]
      · rw [c4 88 (by omega), j3.1.2 88 rfl, g8, zI_ne _ _ (by omega)]
      · rw [c4 76 (by omega), j3.2 8 (by omega), (j1.tr j2).2 76 rfl]
      · rw [a4 10 (by omega), e86, f2 10 (by omega), zI_o (by omega)]
  · rw [ht.1]
    exact b_TR_opens_7 (sh76 hS) ⟨by decide, bad (Classical.byContradiction (fun y => h9 (nI_lt (by omega) (by omega)))) _ zTj.rf.bad (by rw [zI_o (by omega), zI_s]) zI_s⟩
/-- a sign joins -/
theorem w_TR_joins {b : Nat → Nat} {e p s op : Nat} {W : List Nat} {O : List (Nat × Nat)} {lv bb ev cp x : Bool} {S : ZSt} {Q : ZOut → ZSt → Prop} (hs : 5 ≤ s ∧ s < 14) (hS : zSh S) (hC : zCst S) (hx : jTx S b e) (hp : p ≤ e) (ht : jTo S b e p) (hf : jFg S lv bb ev cp) (hw : jWa S W op) (ho : jOu S O) (hz : wsz W op) (h6 : op ≤ 6) (hl : O.length + W.length ≤ 400) (h32 : W.length < 32)
    (ok : ∀ S', zTj S S' → jTo S' b e (tkE b e p) → jFg S' true x ev (if x = true then false else cp) → jWa S' (s :: (wof (ran s) W op O).1) (wof (ran s) W op O).2.1 → jOu S' (wof (ran s) W op O).2.2 → zI S' 76 8 = zI S 76 8 → zI S' 86 10 = zI S 86 10 → Q (.inl (some (.int (nI 1)))) S') : zC m_TR_joins [.ref 86, .ref 76, .int (nI s), .int (bo x)] S Q := by
  have ll := wof_l1 (r := ran s) W op O
  refine b_TR_joins hS (w_TR_rankOf hS hC (by omega) (b_TR_joins_3 hS (w_TR_workOff ⟨rn1 s hs.2 hs.1, ran_le⟩ hS hC hz h6 hw ho hl (by omega) (fun S1 j1 f1 w1 o1 => b_TR_joins_4 (j1.sh hS) (w_TR_letWait (j1.sh hS) w1 (by omega) (by omega) (fun S2 j2 f2 g7 g8 w2 => b_TR_joins_7 (j2.sh (j1.sh hS)) (w_Ta_advance (p := tkE b e p) (j2.sh (j1.sh hS)) (hx.j (j1.tr j2).j) (tkE_le hp) ?_ (fun S3 j3 t3 => b_TR_joins_9 (j3.1.sh (j2.sh (j1.sh hS))) (w_TR_awaitValue (j3.1.sh (j2.sh (j1.sh hS))) (?_ : jFg S3 lv bb ev cp) (fun S4 j4 a4 c4 fl => b_TR_joins_12 (j4.sh (j3.1.sh (j2.sh (j1.sh hS)))) ⟨by decide, ok S4 (((j1.tr j2).j.tr j3.j).tr j4.j) (t3.c (c4 76 (by omega))) fl (w2.c ?_ ?_ ?_) (o1.c ?_ ?_ ?_) ?_ ?_⟩))))))))))
  · rw [(j1.tr j2).2 76 rfl]
    exact ht.2.1
  · exact hf.c (fun j hj => by rw [j3.1.2 86 rfl, f2 j (by omega), f1 j hj])
  · rw [a4 4 (by omega), j3.1.2 86 rfl]
  · rw [a4 5 (by omega), j3.1.2 86 rfl]
  · rw [c4 89 (by omega), j3.1.2 89 rfl]
  · rw [a4 2 (by omega), j3.1.2 86 rfl, f2 2 (by omega)]
  · rw [c4 87 (by omega), j3.1.2 87 rfl, g7]
  · rw [c4 88 (by omega), j3.1.2 88 rfl, g8]
  · rw [c4 76 (by omega), j3.2 8 (by omega), (j1.tr j2).2 76 rfl]
  · rw [a4 10 (by omega), j3.1.2 86 rfl, f2 10 (by omega), f1 10 (by omega)]
/-- the end of a bracket -/
theorem w_TR_closes {b : Nat → Nat} {e p c op y : Nat} {W W2 : List Nat} {O : List (Nat × Nat)} {lv bb ev cp x : Bool} {S : ZSt} {Q : ZOut → ZSt → Prop} (hc : kOf c = 3 ∧ c ≠ 0 ∧ c < 256) (hS : zSh S) (hC : zCst S) (hx : jTx S b e) (hp : p ≤ e) (ht : jTo S b e p) (hf : jFg S lv bb ev cp) (hw : jWa S W op) (ho : jOu S O) (hz : wsz W op) (h6 : op ≤ 6) (hl : O.length + W.length ≤ 400) (h32 : W.length < 32) (hW : (wof 1 W op O).1 = y :: W2) (hop : 1 ≤ (wof 1 W op O).2.1)
    (bad : ¬ hr b e p = c → ∀ S', zTj S S' → zI S' 76 7 = nI 1 → zI S' 76 8 = nI (tkS b e p) → Q (.inl (some (.int (nI 0)))) S')
    (ok : hr b e p = c → ∀ S', zTj S S' → jTo S' b e (tkE b e p) → jFg S' false bb x cp → jWa S' W2 ((wof 1 W op O).2.1 - 1) → jOu S' (wof 1 W op O).2.2 → zI S' 76 8 = zI S 76 8 → zI S' 86 10 = zI S 86 10 → Q (.inl (some (.int (nI 1)))) S') : zC m_TR_closes [.ref 86, .ref 76, .int (nI c), .int (bo x)] S Q := by
  have I := hr_is (b := b) (e := e) (p := p) (c := c) hc.1 hc.2.1
  have ll := wof_l1 (r := 1) W op O
  have eL : (y :: W2).length = W2.length + 1 := rfl
  rw [hW, eL] at ll
  refine b_TR_closes hS (w_Ta_takeSign hc.2.2 hS hx hp ht (fun k3 kc S1 j1 t1 => b_TR_closes_3 (j1.1.sh hS) ⟨fun _ => w_TR_workOff ⟨by omega, by omega⟩ (j1.1.sh hS) (hC.J j1.1 rfl) hz h6 (hw.c (by rw [j1.1.2 86 rfl]) (by rw [j1.1.2 86 rfl]) (j1.1.2 89 rfl)) (ho.c (by rw [j1.1.2 86 rfl]) (j1.1.2 87 rfl) (j1.1.2 88 rfl)) hl (by omega) (fun S2 j2 f2 w2 o2 => b_TR_closes_9 (j2.sh (j1.1.sh hS)) ?_), fun h9 => absurd (by decide) h9⟩) (fun h9 => b_TR_closes_3 (sh76 hS) ⟨fun z => absurd rfl z, fun _ => ⟨by decide, bad (fun z => h9 (I.mp z)) _ zTj.rf.bad (by rw [zI_o (by omega), zI_s]) zI_s⟩⟩))
  obtain ⟨a1, a2, a3⟩ := w2
  rw [hW] at a1 a3
  rw [a1, a2, eL, pk_sub (by omega), pk_sub hop, show W2.length + 1 - 1 = W2.length by omega, mx0 (by omega)]
  have j3 : zJ [86, 87, 88, 89] S2 (zsI (zsI S2 86 4 (nI W2.length)) 86 5 (nI ((wof 1 W op O).2.1 - 1))) := (zJ.rf.I rfl).I rfl
  have hS3 := j3.sh (j2.sh (j1.1.sh hS))
  refine w_TR_complete hS3 (lv := lv) (bb := bb) (ev := ev) (cp := cp) (hf.c (fun j hj => by rw [zI_o (by omega), zI_o (by omega), f2 j hj, j1.1.2 86 rfl])) (fun S4 j4 a4 c4 fl => b_TR_closes_26 (j4.sh hS3) ⟨by decide, ok (I.mpr ⟨k3, kc⟩) S4 ((j1.j.tr (j2.tr j3).j).tr j4.j) (t1.c (by rw [c4 76 (by omega), (j2.tr j3).2 76 rfl])) fl ⟨?_, ?_, ?_⟩ (o2.c ?_ ?_ ?_) ?_ ?_⟩)
  · rw [a4 4 (by omega), zI_o (by omega), zI_s]
  · rw [a4 5 (by omega), zI_s]
  · rw [c4 89 (by omega), zI_ne _ _ (by omega), zI_ne _ _ (by omega)]
    exact a3.2
  · rw [a4 2 (by omega), zI_o (by omega), zI_o (by omega)]
  · rw [c4 87 (by omega), zI_ne _ _ (by omega), zI_ne _ _ (by omega)]
  · rw [c4 88 (by omega), zI_ne _ _ (by omega), zI_ne _ _ (by omega)]
  · rw [c4 76 (by omega), (j2.tr j3).2 76 rfl, j1.2 8 (by omega)]
  · rw [a4 10 (by omega), zI_o (by omega), zI_o (by omega), f2 10 (by omega), j1.1.2 86 rfl]
/-- a condition's end -/
theorem w_TR_endsCondition {b : Nat → Nat} {e p op : Nat} {W : List Nat} {O : List (Nat × Nat)} {S : ZSt} {Q : ZOut → ZSt → Prop} (hS : zSh S) (hC : zCst S) (hx : jTx S b e) (hp : p ≤ e) (ht : jTo S b e p) (hw : jWa S W op) (ho : jOu S O) (hz : wsz W op) (h6 : op ≤ 6) (hl : hr b e p = 59 → O.length + W.length < 400) (hl' : O.length + W.length ≤ 400) (h32 : W.length < 32)
    (bad : ¬ hr b e p = 59 → ∀ S', zTj S S' → zI S' 76 7 = nI 1 → zI S' 76 8 = nI (tkS b e p) → Q (.inl (some (.int (nI 0)))) S')
    (ok : hr b e p = 59 → ∀ S', zTj S S' → jTo S' b e (tkE b e p) → jWa S' (wof 1 W op O).1 (wof 1 W op O).2.1 → jOu S' ((wof 1 W op O).2.2 ++ [(15, 0)]) → zI S' 76 8 = zI S 76 8 → zI S' 86 10 = nI 1 → Q (.inl (some (.int (nI 1)))) S') : zC m_TR_endsCondition [.ref 86, .ref 76] S Q := by
  have ll := wof_ll (r := 1) W op O
  refine b_TR_endsCondition hS (w_Ta_semi hS hx hp ht (fun h8 S1 j1 t1 => b_TR_endsCondition_3 (j1.1.sh hS) ⟨fun _ => w_TR_workOff ⟨by omega, by omega⟩ (j1.1.sh hS) (hC.J j1.1 rfl) hz h6 (hw.c (by rw [j1.1.2 86 rfl]) (by rw [j1.1.2 86 rfl]) (j1.1.2 89 rfl)) (ho.c (by rw [j1.1.2 86 rfl]) (j1.1.2 87 rfl) (j1.1.2 88 rfl)) hl' (by omega) (fun S2 j2 f2 w2 o2 => b_TR_endsCondition_9 (j2.sh (j1.1.sh hS)) (w_TR_add (j2.sh (j1.1.sh hS)) o2 (by have := hl h8; omega) (fun S3 j3 f3 g3 o3 => b_TR_endsCondition_13 (j3.sh (j2.sh (j1.1.sh hS))) ⟨by decide, by decide, ok h8 _ ((j1.j.tr (j2.tr j3).j).tr (zJ.rf.I rfl : zJ [86, 87, 88, 89] S3 (zsI S3 86 10 (nI 1))).j) (t1.c (by rw [zI_ne _ _ (by omega), (j2.tr j3).2 76 rfl])) (w2.c (by rw [zI_o (by omega), f3 4 (by omega)]) (by rw [zI_o (by omega), f3 5 (by omega)]) (by rw [zI_ne _ _ (by omega), g3])) (o3.c (zI_o (by omega)) (zI_ne _ _ (by omega)) (zI_ne _ _ (by omega))) (by rw [zI_ne _ _ (by omega), (j2.tr j3).2 76 rfl, j1.2 8 (by omega)]) zI_s⟩))), fun h9 => absurd (by decide) h9⟩) (fun h9 => b_TR_endsCondition_3 (sh76 hS) ⟨fun z => absurd rfl z, fun _ => ⟨by decide, bad h9 _ zTj.rf.bad (by rw [zI_o (by omega), zI_s]) zI_s⟩⟩))
