/-! the letters of ways that are tried: both sides (printed by wip/letters.py) -/
abbrev Lt := Nat × Nat × Nat
def jLt (f1 f2 f3 : Nat → Int32) (l : List Lt) : Prop := ∀ i x, l[i]? = some x → f1 i = nI x.1 ∧ f2 i = eA x.1 x.2.1 ∧ f3 i = eB x.1 x.2.2
theorem jLt.add {f1 f2 f3 : Nat → Int32} {l : List Lt} (h : jLt f1 f2 f3 l) (x : Lt) : jLt (upd f1 l.length (nI x.1)) (upd f2 l.length (eA x.1 x.2.1)) (upd f3 l.length (eB x.1 x.2.2)) (l ++ [x]) := fun i y hy => by
  rw [zupd, zupd, zupd]
  by_cases e : i = l.length
  · rw [if_pos e, if_pos e, if_pos e]
    rw [e, List.getElem?_append_right (Nat.le_refl _), Nat.sub_self] at hy
    cases hy
    exact ⟨rfl, rfl, rfl⟩
  · rw [if_neg e, if_neg e, if_neg e]
    have hlt : i < l.length := by
      have := (List.getElem?_eq_some_iff.mp hy).1
      rw [List.length_append] at this
      simp at this
      omega
    rw [List.getElem?_append_left hlt] at hy
    exact h i y hy
theorem eB_no {k b : Nat} (h : ¬ (k = 2 ∨ k = 3 ∨ k = 4 ∨ k = 7 ∨ k = 8)) : eB k b = - nI 1 := by
  unfold eB
  rw [if_neg h]
theorem eA_11 {a : Nat} : eA 11 a = - nI 1 := by
  unfold eA
  rw [if_pos rfl]
def jLO (S : ZSt) (l : List Lt) : Prop := zI S 110 4 = nI l.length ∧ jLt (zI S 115) (zI S 116) (zI S 117) l
def zJA (S S' : ZSt) : Prop := zJ [110, 115, 116, 117] S S' ∧ ∀ j, j ≠ 4 → zI S' 110 j = zI S 110 j
theorem zJA.rf {S : ZSt} : zJA S S := ⟨zJ.rf, fun _ _ => rfl⟩
theorem zJA.tr {S S1 S2 : ZSt} (h1 : zJA S S1) (h2 : zJA S1 S2) : zJA S S2 := ⟨h1.1.tr h2.1, fun j a => (h2.2 j a).trans (h1.2 j a)⟩
theorem zJA.sh {S S1 : ZSt} (h : zJA S S1) (hS : zSh S) : zSh S1 := h.1.sh hS
theorem w_Tr_add {l : List Lt} {k a b : Nat} {va vb : Int32} {S : ZSt} {Q : ZOut → ZSt → Prop} (ea : eA k a = va) (eb : eB k b = vb) (hS : zSh S) (hJ : jLO S l) (hl : l.length < 36) (hQ : ∀ S', zJA S S' → jLO S' (l ++ [(k, a, b)]) → Q (.inl none) S') : zC m_Tr_add [.ref 110, .int (nI k), .int va, .int vb] S Q := by
  subst ea
  subst eb
  refine b_Tr_add hS ?_
  rw [hJ.1, zcl9 (by omega), nI_add]
  refine ⟨fun h9 => absurd h9 (nI_ge (by omega) (by omega)), fun _ => ⟨zin (by omega) (by omega), zin (by omega) (by omega), zin (by omega) (by omega), hQ _ ⟨(((zJ.rf.I rfl).I rfl).I rfl).I rfl, fun j hj => ?_⟩ ⟨?_, ?_⟩⟩⟩
  · rw [zI_o hj, zI_ne _ _ (by omega), zI_ne _ _ (by omega), zI_ne _ _ (by omega)]
  · rw [zI_s, List.length_append]
    rfl
  · have e1 : zI (zsI (zsI (zsI (zsI S 115 l.length (nI k)) 116 l.length (eA k a)) 117 l.length (eB k b)) 110 4 (nI (l.length + 1))) 115 = upd (zI S 115) l.length (nI k) := by
      rw [zI_ne _ _ (by omega), zI_ne _ _ (by omega), zI_ne _ _ (by omega), zI_eq]
    have e2 : zI (zsI (zsI (zsI (zsI S 115 l.length (nI k)) 116 l.length (eA k a)) 117 l.length (eB k b)) 110 4 (nI (l.length + 1))) 116 = upd (zI S 116) l.length (eA k a) := by
      rw [zI_ne _ _ (by omega), zI_ne _ _ (by omega), zI_eq, zI_ne _ _ (by omega)]
    have e3 : zI (zsI (zsI (zsI (zsI S 115 l.length (nI k)) 116 l.length (eA k a)) 117 l.length (eB k b)) 110 4 (nI (l.length + 1))) 117 = upd (zI S 117) l.length (eB k b) := by
      rw [zI_ne _ _ (by omega), zI_eq, zI_ne _ _ (by omega), zI_ne _ _ (by omega)]
    rw [e1, e2, e3]
    exact hJ.2.add (k, a, b)
def jLR (S : ZSt) (l : List Lt) : Prop := zI S 130 39 = nI l.length ∧ jLt (zI S 148) (zI S 149) (zI S 150) l
def zJB (S S' : ZSt) : Prop := zJ [130, 148, 149, 150] S S' ∧ ∀ j, j ≠ 39 → zI S' 130 j = zI S 130 j
theorem zJB.rf {S : ZSt} : zJB S S := ⟨zJ.rf, fun _ _ => rfl⟩
theorem zJB.tr {S S1 S2 : ZSt} (h1 : zJB S S1) (h2 : zJB S1 S2) : zJB S S2 := ⟨h1.1.tr h2.1, fun j a => (h2.2 j a).trans (h1.2 j a)⟩
theorem zJB.sh {S S1 : ZSt} (h : zJB S S1) (hS : zSh S) : zSh S1 := h.1.sh hS
theorem w_M_choice {l : List Lt} {k a b : Nat} {va vb : Int32} {S : ZSt} {Q : ZOut → ZSt → Prop} (ea : eA k a = va) (eb : eB k b = vb) (hS : zSh S) (hJ : jLR S l) (hl : l.length < 36) (hQ : ∀ S', zJB S S' → jLR S' (l ++ [(k, a, b)]) → Q (.inl none) S') : zC m_M_choice [.ref 130, .int (nI k), .int va, .int vb] S Q := by
  subst ea
  subst eb
  refine b_M_choice hS ?_
  rw [hJ.1, zcl9 (by omega), nI_add]
  refine ⟨zin (by omega) (by omega), zin (by omega) (by omega), zin (by omega) (by omega), hQ _ ⟨(((zJ.rf.I rfl).I rfl).I rfl).I rfl, fun j hj => ?_⟩ ⟨?_, ?_⟩⟩
  · rw [zI_o hj, zI_ne _ _ (by omega), zI_ne _ _ (by omega), zI_ne _ _ (by omega)]
  · rw [zI_s, List.length_append]
    rfl
  · have e1 : zI (zsI (zsI (zsI (zsI S 148 l.length (nI k)) 149 l.length (eA k a)) 150 l.length (eB k b)) 130 39 (nI (l.length + 1))) 148 = upd (zI S 148) l.length (nI k) := by
      rw [zI_ne _ _ (by omega), zI_ne _ _ (by omega), zI_ne _ _ (by omega), zI_eq]
    have e2 : zI (zsI (zsI (zsI (zsI S 148 l.length (nI k)) 149 l.length (eA k a)) 150 l.length (eB k b)) 130 39 (nI (l.length + 1))) 149 = upd (zI S 149) l.length (eA k a) := by
      rw [zI_ne _ _ (by omega), zI_ne _ _ (by omega), zI_eq, zI_ne _ _ (by omega)]
    have e3 : zI (zsI (zsI (zsI (zsI S 148 l.length (nI k)) 149 l.length (eA k a)) 150 l.length (eB k b)) 130 39 (nI (l.length + 1))) 150 = upd (zI S 150) l.length (eB k b) := by
      rw [zI_ne _ _ (by omega), zI_eq, zI_ne _ _ (by omega), zI_ne _ _ (by omega)]
    rw [e1, e2, e3]
    exact hJ.2.add (k, a, b)
/-! what is added, loop by loop -/
def rChg : Nat → Nat → List Lt
  | 0, _ => []
  | f + 1, h => (0, h, 0) :: (1, h, 0) :: rChg f (h + 1)
def rMvI (h : Nat) : Nat → Nat → List Lt
  | 0, _ => []
  | f + 1, o => if o = h then rMvI h f (o + 1) else (2, h, o) :: rMvI h f (o + 1)
def rMv (H : Nat) : Nat → Nat → List Lt
  | 0, _ => []
  | f + 1, h => rMvI h H 0 ++ rMv H f (h + 1)
def rPrI (h : Nat) : Nat → Nat → List Lt
  | 0, _ => []
  | f + 1, o => (3, h, o) :: rPrI h f (o + 1)
def rPr (H : Nat) : Nat → Nat → List Lt
  | 0, _ => []
  | f + 1, h => rPrI h f (h + 1) ++ rPr H f (h + 1)
def rEmI (h : Nat) : Nat → Nat → List Lt
  | 0, _ => []
  | f + 1, o => (4, h, o) :: rEmI h f (o + 1)
def rEm (n : Nat) : Nat → Nat → List Lt
  | 0, _ => []
  | f + 1, h => rEmI h (n + 1) 0 ++ rEm n f (h + 1)
def rGo : Nat → Nat → List Lt
  | 0, _ => []
  | f + 1, o => (9, o, 0) :: rGo f (o + 1)
def rSay : Nat → Nat → List Lt
  | 0, _ => []
  | f + 1, o => (10, o, 0) :: rSay f (o + 1)
def rPs (H mv pr : Nat) : List Lt := (if mv = 1 then rMv H H 0 else []) ++ (if pr = 1 then rPr H H 0 else [])
def letF (H n wd mv pr : Nat) : List Lt := rChg H 0 ++ (rPs H mv pr ++ (rEm n H 0 ++ (rGo (n + 1) 0 ++ (rSay (wd + 1) 0 ++ [(11, 0, 0)]))))
theorem w_Tr_chg {H : Nat} {Q : ZOut → ZSt → Prop} (hH : H ≤ 3) : ∀ (f i : Nat) {S : ZSt} {l : List Lt}, zSh S → jLO S l → f + i = H → l.length + (rChg f i).length ≤ 36 → (∀ S', zJA S S' → jLO S' (l ++ rChg f i) → Q (.inl none) S') → zW 2 m_Tr_addChanges 2 [some (.ref 110), some (.int (nI H)), some (.int (nI i))] [] S Q
  | 0, i, S, l, hS, hJ, hi, hl, hQ => by
    have hq := hQ S zJA.rf (by rw [show rChg 0 i = [] from rfl, List.append_nil]; exact hJ)
    refine b_Tr_addChanges_2 hS ?_
    exact ⟨fun _ => hq, fun h9 => absurd (nI_le (show H ≤ i by omega) (by omega)) h9⟩
  | f + 1, i, S, l, hS, hJ, hi, hl, hQ => by
    have hR : rChg (f + 1) i = (0, i, 0) :: (1, i, 0) :: rChg f (i + 1) := rfl
    rw [hR] at hl hQ
    simp only [List.length_cons] at hl
    refine b_Tr_addChanges_2 hS ?_
    refine ⟨fun h9 => absurd h9 (nI_ge (by omega) (by omega)), fun _ => w_Tr_add (k := 0) (a := i) (b := 0) (eA_n (by omega)) (eB_no (by omega)) hS hJ (by omega) (fun S1 j1 l1 => b_Tr_addChanges_10 (j1.sh hS) ?_)⟩
    refine w_Tr_add (k := 1) (a := i) (b := 0) (eA_n (by omega)) (eB_no (by omega)) (j1.sh hS) l1 (by simp only [List.length_append, List.length_cons, List.length_nil]; omega) (fun S2 j2 l2 => b_Tr_addChanges_15 (j2.sh (j1.sh hS)) ?_)
    rw [nI_add]
    exact w_Tr_chg hH f (i + 1) ((j1.tr j2).sh hS) l2 (by omega) (by simp only [List.length_append, List.length_cons, List.length_nil]; omega) (fun S' j' l' => hQ S' ((j1.tr j2).tr j') (by rw [List.append_assoc, List.append_assoc] at l'; exact l'))
theorem w_Tr_mvI {H h : Nat} {Q : ZOut → ZSt → Prop} (hH : H ≤ 3) (hh : h < 3) : ∀ (f i : Nat) {S : ZSt} {l : List Lt}, zSh S → jLO S l → f + i = H → l.length + (rMvI h f i).length ≤ 36 → (∀ S', zJA S S' → jLO S' (l ++ rMvI h f i) → ∀ u4, zW 2 m_Tr_addPairs 2 [some (.ref 110), some (.int (nI H)), some (.ref 93), some (.int (nI (h + 1))), u4] [] S' Q) → zW 2 m_Tr_addPairs 12 [some (.ref 110), some (.int (nI H)), some (.ref 93), some (.int (nI h)), some (.int (nI i))] [] S Q
  | 0, i, S, l, hS, hJ, hi, hl, hQ => by
    have hq := hQ S zJA.rf (by rw [show rMvI h 0 i = [] from rfl, List.append_nil]; exact hJ)
    refine b_Tr_addPairs_12 hS ?_
    exact ⟨fun _ => (by rw [nI_add]; exact hq _), fun h9 => absurd (nI_le (show H ≤ i by omega) (by omega)) h9⟩
  | f + 1, i, S, l, hS, hJ, hi, hl, hQ => by
    by_cases hs : i = h
    · have hR : rMvI h (f + 1) i = rMvI h f (i + 1) := if_pos hs
      rw [hR] at hl hQ
      refine b_Tr_addPairs_12 hS ⟨fun h9 => absurd h9 (nI_ge (by omega) (by omega)), fun _ => ⟨fun _ => ?_, fun h9 => absurd (by rw [hs]) h9⟩⟩
      rw [nI_add]
      exact w_Tr_mvI hH hh f (i + 1) hS hJ (by omega) hl hQ
    · have hR : rMvI h (f + 1) i = (2, h, i) :: rMvI h f (i + 1) := if_neg hs
      rw [hR] at hl hQ
      simp only [List.length_cons] at hl
      refine b_Tr_addPairs_12 hS ⟨fun h9 => absurd h9 (nI_ge (by omega) (by omega)), fun _ => ⟨fun h9 => absurd (nEq (by omega) (by omega) h9) hs, fun _ => w_Tr_add (k := 2) (a := h) (b := i) (eA_n (by omega)) (eB_n (by omega)) hS hJ (by omega) (fun S1 j1 l1 => b_Tr_addPairs_23 (j1.sh hS) ?_)⟩⟩
      rw [nI_add]
      exact w_Tr_mvI hH hh f (i + 1) (j1.sh hS) l1 (by omega) (by simp only [List.length_append, List.length_cons, List.length_nil]; omega) (fun S' j' l' => hQ S' (j1.tr j') (by rw [List.append_assoc] at l'; exact l'))
theorem w_Tr_mv {H : Nat} {Q : ZOut → ZSt → Prop} (hH : H ≤ 3) : ∀ (f h : Nat) {S : ZSt} {l : List Lt} {u4 : Option Value}, zSh S → jLO S l → zI S 93 5 = nI 1 → f + h = H → l.length + (rMv H f h).length ≤ 36 → (∀ S', zJA S S' → jLO S' (l ++ rMv H f h) → ∀ u4, zW 2 m_Tr_addPairs 29 [some (.ref 110), some (.int (nI H)), some (.ref 93), some (.int (nI 0)), u4] [] S' Q) → zW 2 m_Tr_addPairs 2 [some (.ref 110), some (.int (nI H)), some (.ref 93), some (.int (nI h)), u4] [] S Q
  | 0, h, S, l, u4, hS, hJ, hv, hi, hl, hQ => by
    have hq := hQ S zJA.rf (by rw [show rMv H 0 h = [] from rfl, List.append_nil]; exact hJ)
    exact b_Tr_addPairs_2 hS ⟨fun _ => hq _, fun h9 => absurd (nI_le (show H ≤ h by omega) (by omega)) h9⟩
  | f + 1, h, S, l, u4, hS, hJ, hv, hi, hl, hQ => by
    have hR : rMv H (f + 1) h = rMvI h H 0 ++ rMv H f (h + 1) := rfl
    rw [hR] at hl hQ
    simp only [List.length_append] at hl
    exact b_Tr_addPairs_2 hS ⟨fun h9 => absurd h9 (nI_ge (by omega) (by omega)), fun _ => ⟨zinl rfl, fun h9 => absurd hv h9, fun _ => w_Tr_mvI hH (by omega) H 0 hS hJ (by omega) (by omega) (fun S1 j1 l1 u => w_Tr_mv hH f (h + 1) (j1.sh hS) l1 (by rw [j1.1.2 93 rfl]; exact hv) (by omega) (by simp only [List.length_append]; omega) (fun S' j' l' => hQ S' (j1.tr j') (by rw [List.append_assoc] at l'; exact l')))⟩⟩
theorem w_Tr_prI {H h : Nat} {Q : ZOut → ZSt → Prop} (hH : H ≤ 3) (hh : h < 3) : ∀ (f i : Nat) {S : ZSt} {l : List Lt}, zSh S → jLO S l → f + i = H → l.length + (rPrI h f i).length ≤ 36 → (∀ S', zJA S S' → jLO S' (l ++ rPrI h f i) → ∀ u4, zW 2 m_Tr_addPairs 29 [some (.ref 110), some (.int (nI H)), some (.ref 93), some (.int (nI (h + 1))), u4] [] S' Q) → zW 2 m_Tr_addPairs 41 [some (.ref 110), some (.int (nI H)), some (.ref 93), some (.int (nI h)), some (.int (nI i))] [] S Q
  | 0, i, S, l, hS, hJ, hi, hl, hQ => by
    have hq := hQ S zJA.rf (by rw [show rPrI h 0 i = [] from rfl, List.append_nil]; exact hJ)
    refine b_Tr_addPairs_41 hS ?_
    exact ⟨fun _ => (by rw [nI_add]; exact hq _), fun h9 => absurd (nI_le (show H ≤ i by omega) (by omega)) h9⟩
  | f + 1, i, S, l, hS, hJ, hi, hl, hQ => by
    have hR : rPrI h (f + 1) i = (3, h, i) :: rPrI h f (i + 1) := rfl
    rw [hR] at hl hQ
    simp only [List.length_cons] at hl
    refine b_Tr_addPairs_41 hS ?_
    refine ⟨fun h9 => absurd h9 (nI_ge (by omega) (by omega)), fun _ => w_Tr_add (k := 3) (a := h) (b := i) (eA_n (by omega)) (eB_n (by omega)) hS hJ (by omega) (fun S1 j1 l1 => b_Tr_addPairs_49 (j1.sh hS) ?_)⟩
    rw [nI_add]
    exact w_Tr_prI hH hh f (i + 1) (j1.sh hS) l1 (by omega) (by simp only [List.length_append, List.length_cons, List.length_nil]; omega) (fun S' j' l' => hQ S' (j1.tr j') (by rw [List.append_assoc] at l'; exact l'))
theorem w_Tr_pr {H : Nat} {Q : ZOut → ZSt → Prop} (hH : H ≤ 3) : ∀ (f h : Nat) {S : ZSt} {l : List Lt} {u4 : Option Value}, zSh S → jLO S l → zI S 93 4 = nI 1 → f + h = H → l.length + (rPr H f h).length ≤ 36 → (∀ S', zJA S S' → jLO S' (l ++ rPr H f h) → Q (.inl none) S') → zW 2 m_Tr_addPairs 29 [some (.ref 110), some (.int (nI H)), some (.ref 93), some (.int (nI h)), u4] [] S Q
  | 0, h, S, l, u4, hS, hJ, hv, hi, hl, hQ => by
    have hq := hQ S zJA.rf (by rw [show rPr H 0 h = [] from rfl, List.append_nil]; exact hJ)
    exact b_Tr_addPairs_29 hS ⟨fun _ => hq, fun h9 => absurd (nI_le (show H ≤ h by omega) (by omega)) h9⟩
  | f + 1, h, S, l, u4, hS, hJ, hv, hi, hl, hQ => by
    have hR : rPr H (f + 1) h = rPrI h f (h + 1) ++ rPr H f (h + 1) := rfl
    rw [hR] at hl hQ
    simp only [List.length_append] at hl
    exact b_Tr_addPairs_29 hS ⟨fun h9 => absurd h9 (nI_ge (by omega) (by omega)), fun _ => ⟨zinl rfl, fun h9 => absurd hv h9, fun _ => (by rw [nI_add]; exact w_Tr_prI hH (by omega) f (h + 1) hS hJ (by omega) (by omega) (fun S1 j1 l1 u => w_Tr_pr hH f (h + 1) (j1.sh hS) l1 (by rw [j1.1.2 93 rfl]; exact hv) (by omega) (by simp only [List.length_append]; omega) (fun S' j' l' => hQ S' (j1.tr j') (by rw [List.append_assoc] at l'; exact l'))))⟩⟩
theorem w_Tr_emI {H n h : Nat} {Q : ZOut → ZSt → Prop} (hn : n ≤ 3) (hH : H ≤ 3) (hh : h < 3) : ∀ (f i : Nat) {S : ZSt} {l : List Lt}, zSh S → jLO S l → f + i = n + 1 → l.length + (rEmI h f i).length ≤ 36 → (∀ S', zJA S S' → jLO S' (l ++ rEmI h f i) → ∀ u4, zW 2 m_Tr_addJumps 2 [some (.ref 110), some (.int (nI H)), some (.int (nI n)), some (.int (nI (h + 1))), u4] [] S' Q) → zW 2 m_Tr_addJumps 7 [some (.ref 110), some (.int (nI H)), some (.int (nI n)), some (.int (nI h)), some (.int (nI i))] [] S Q
  | 0, i, S, l, hS, hJ, hi, hl, hQ => by
    have hq := hQ S zJA.rf (by rw [show rEmI h 0 i = [] from rfl, List.append_nil]; exact hJ)
    refine b_Tr_addJumps_7 hS ?_
    exact ⟨fun _ => (by rw [nI_add]; exact hq _), fun h9 => absurd (nI_lt (show n < i by omega) (by omega)) h9⟩
  | f + 1, i, S, l, hS, hJ, hi, hl, hQ => by
    have hR : rEmI h (f + 1) i = (4, h, i) :: rEmI h f (i + 1) := rfl
    rw [hR] at hl hQ
    simp only [List.length_cons] at hl
    refine b_Tr_addJumps_7 hS ?_
    refine ⟨fun h9 => absurd h9 (nI_nlt (by omega) (by omega)), fun _ => w_Tr_add (k := 4) (a := h) (b := i) (eA_n (by omega)) (eB_n (by omega)) hS hJ (by omega) (fun S1 j1 l1 => b_Tr_addJumps_15 (j1.sh hS) ?_)⟩
    rw [nI_add]
    exact w_Tr_emI hn hH hh f (i + 1) (j1.sh hS) l1 (by omega) (by simp only [List.length_append, List.length_cons, List.length_nil]; omega) (fun S' j' l' => hQ S' (j1.tr j') (by rw [List.append_assoc] at l'; exact l'))
theorem w_Tr_em {H n : Nat} {Q : ZOut → ZSt → Prop} (hn : n ≤ 3) (hH : H ≤ 3) : ∀ (f h : Nat) {S : ZSt} {l : List Lt} {u4 : Option Value}, zSh S → jLO S l → f + h = H → l.length + (rEm n f h).length ≤ 36 → (∀ S', zJA S S' → jLO S' (l ++ rEm n f h) → ∀ u4, zW 2 m_Tr_addJumps 21 [some (.ref 110), some (.int (nI H)), some (.int (nI n)), some (.int (nI 0)), u4] [] S' Q) → zW 2 m_Tr_addJumps 2 [some (.ref 110), some (.int (nI H)), some (.int (nI n)), some (.int (nI h)), u4] [] S Q
  | 0, h, S, l, u4, hS, hJ, hi, hl, hQ => by
    have hq := hQ S zJA.rf (by rw [show rEm n 0 h = [] from rfl, List.append_nil]; exact hJ)
    exact b_Tr_addJumps_2 hS ⟨fun _ => hq _, fun h9 => absurd (nI_le (show H ≤ h by omega) (by omega)) h9⟩
  | f + 1, h, S, l, u4, hS, hJ, hi, hl, hQ => by
    have hR : rEm n (f + 1) h = rEmI h (n + 1) 0 ++ rEm n f (h + 1) := rfl
    rw [hR] at hl hQ
    simp only [List.length_append] at hl
    exact b_Tr_addJumps_2 hS ⟨fun h9 => absurd h9 (nI_ge (by omega) (by omega)), fun _ => w_Tr_emI hn hH (by omega) (n + 1) 0 hS hJ (by omega) (by omega) (fun S1 j1 l1 u => w_Tr_em hn hH f (h + 1) (j1.sh hS) l1 (by omega) (by simp only [List.length_append]; omega) (fun S' j' l' => hQ S' (j1.tr j') (by rw [List.append_assoc] at l'; exact l')))⟩
theorem w_Tr_go {H n : Nat} {Q : ZOut → ZSt → Prop} (hn : n ≤ 3) : ∀ (f i : Nat) {S : ZSt} {l : List Lt} {u4 : Option Value}, zSh S → jLO S l → f + i = n + 1 → l.length + (rGo f i).length ≤ 36 → (∀ S', zJA S S' → jLO S' (l ++ rGo f i) → Q (.inl none) S') → zW 2 m_Tr_addJumps 21 [some (.ref 110), some (.int (nI H)), some (.int (nI n)), some (.int (nI i)), u4] [] S Q
  | 0, i, S, l, u4, hS, hJ, hi, hl, hQ => by
    have hq := hQ S zJA.rf (by rw [show rGo 0 i = [] from rfl, List.append_nil]; exact hJ)
    refine b_Tr_addJumps_21 hS ?_
    exact ⟨fun _ => hq, fun h9 => absurd (nI_lt (show n < i by omega) (by omega)) h9⟩
  | f + 1, i, S, l, u4, hS, hJ, hi, hl, hQ => by
    have hR : rGo (f + 1) i = (9, i, 0) :: rGo f (i + 1) := rfl
    rw [hR] at hl hQ
    simp only [List.length_cons] at hl
    refine b_Tr_addJumps_21 hS ?_
    refine ⟨fun h9 => absurd h9 (nI_nlt (by omega) (by omega)), fun _ => w_Tr_add (k := 9) (a := i) (b := 0) (eA_n (by omega)) (eB_no (by omega)) hS hJ (by omega) (fun S1 j1 l1 => b_Tr_addJumps_29 (j1.sh hS) ?_)⟩
    rw [nI_add]
    exact w_Tr_go hn f (i + 1) (j1.sh hS) l1 (by omega) (by simp only [List.length_append, List.length_cons, List.length_nil]; omega) (fun S' j' l' => hQ S' (j1.tr j') (by rw [List.append_assoc] at l'; exact l'))
theorem w_Tr_say {wd : Nat} {x1 x2 : Int32} {Q : ZOut → ZSt → Prop} (hw : wd ≤ 3) : ∀ (f i : Nat) {S : ZSt} {l : List Lt}, zSh S → jLO S l → zI S 93 3 = nI wd → f + i = wd + 1 → l.length + (rSay f i).length ≤ 36 → (∀ S', zJA S S' → jLO S' (l ++ rSay f i) → ∀ x : Int32, zC m_Tr_add [.ref 110, .int (nI 11), .int (- nI 1), .int (- nI 1)] S' (zback m_Tr_begin 58 35 [some (.ref 110), some (.int (x1)), some (.int (x2)), some (.ref 93), some (.int (x))] [] (fun i1 l1 s1 S1 => zW 4 m_Tr_begin i1 l1 s1 S1 Q) (fun x S1 => Q (.inr x) S1))) → zW 4 m_Tr_begin 19 [some (.ref 110), some (.int (x1)), some (.int (x2)), some (.ref 93), some (.int (nI i))] [] S Q
  | 0, i, S, l, hS, hJ, hv, hi, hl, hQ => by
    have hq := hQ S zJA.rf (by rw [show rSay 0 i = [] from rfl, List.append_nil]; exact hJ)
    refine b_Tr_begin_19 hS ?_
    rw [hv]
    exact ⟨zinl rfl, ⟨fun _ => hq _, fun h9 => absurd (nI_lt (show wd < i by omega) (by omega)) h9⟩⟩
  | f + 1, i, S, l, hS, hJ, hv, hi, hl, hQ => by
    have hR : rSay (f + 1) i = (10, i, 0) :: rSay f (i + 1) := rfl
    rw [hR] at hl hQ
    simp only [List.length_cons] at hl
    refine b_Tr_begin_19 hS ?_
    rw [hv]
    refine ⟨zinl rfl, ⟨fun h9 => absurd h9 (nI_nlt (by omega) (by omega)), fun _ => w_Tr_add (k := 10) (a := i) (b := 0) (eA_n (by omega)) (eB_no (by omega)) hS hJ (by omega) (fun S1 j1 l1 => b_Tr_begin_29 (j1.sh hS) ?_)⟩⟩
    rw [nI_add]
    exact w_Tr_say hw f (i + 1) (j1.sh hS) l1 (by rw [j1.1.2 93 rfl]; exact hv) (by omega) (by simp only [List.length_append, List.length_cons, List.length_nil]; omega) (fun S' j' l' => hQ S' (j1.tr j') (by rw [List.append_assoc] at l'; exact l'))
theorem w_M_chg {H n : Nat} {x3 : Int32} {Q : ZOut → ZSt → Prop} (hH : H ≤ 3) : ∀ (f i : Nat) {S : ZSt} {l : List Lt}, zSh S → jLR S l → f + i = H → l.length + (rChg f i).length ≤ 36 → (∀ S', zJB S S' → jLR S' (l ++ rChg f i) → zW 2 m_M_lists 22 [some (.ref 130), some (.int (nI n)), some (.int (nI H)), some (.int (x3)), some (.int (nI 0)), none] [] S' Q) → zW 2 m_M_lists 5 [some (.ref 130), some (.int (nI n)), some (.int (nI H)), some (.int (x3)), some (.int (nI i)), none] [] S Q
  | 0, i, S, l, hS, hJ, hi, hl, hQ => by
    have hq := hQ S zJB.rf (by rw [show rChg 0 i = [] from rfl, List.append_nil]; exact hJ)
    refine b_M_lists_5 hS ?_
    exact ⟨fun _ => hq, fun h9 => absurd (nI_le (show H ≤ i by omega) (by omega)) h9⟩
  | f + 1, i, S, l, hS, hJ, hi, hl, hQ => by
    have hR : rChg (f + 1) i = (0, i, 0) :: (1, i, 0) :: rChg f (i + 1) := rfl
    rw [hR] at hl hQ
    simp only [List.length_cons] at hl
    refine b_M_lists_5 hS ?_
    refine ⟨fun h9 => absurd h9 (nI_ge (by omega) (by omega)), fun _ => w_M_choice (k := 0) (a := i) (b := 0) (eA_n (by omega)) (eB_no (by omega)) hS hJ (by omega) (fun S1 j1 l1 => b_M_lists_13 (j1.sh hS) ?_)⟩
    refine w_M_choice (k := 1) (a := i) (b := 0) (eA_n (by omega)) (eB_no (by omega)) (j1.sh hS) l1 (by simp only [List.length_append, List.length_cons, List.length_nil]; omega) (fun S2 j2 l2 => b_M_lists_18 (j2.sh (j1.sh hS)) ?_)
    rw [nI_add]
    exact w_M_chg hH f (i + 1) ((j1.tr j2).sh hS) l2 (by omega) (by simp only [List.length_append, List.length_cons, List.length_nil]; omega) (fun S' j' l' => hQ S' ((j1.tr j2).tr j') (by rw [List.append_assoc, List.append_assoc] at l'; exact l'))
theorem w_M_mvI {H n h : Nat} {x3 : Int32} {Q : ZOut → ZSt → Prop} (hH : H ≤ 3) (hh : h < 3) : ∀ (f i : Nat) {S : ZSt} {l : List Lt}, zSh S → jLR S l → f + i = H → l.length + (rMvI h f i).length ≤ 36 → (∀ S', zJB S S' → jLR S' (l ++ rMvI h f i) → ∀ u5, zW 2 m_M_lists 22 [some (.ref 130), some (.int (nI n)), some (.int (nI H)), some (.int (x3)), some (.int (nI (h + 1))), u5] [] S' Q) → zW 2 m_M_lists 35 [some (.ref 130), some (.int (nI n)), some (.int (nI H)), some (.int (x3)), some (.int (nI h)), some (.int (nI i))] [] S Q
  | 0, i, S, l, hS, hJ, hi, hl, hQ => by
    have hq := hQ S zJB.rf (by rw [show rMvI h 0 i = [] from rfl, List.append_nil]; exact hJ)
    refine b_M_lists_35 hS ?_
    exact ⟨fun _ => (by rw [nI_add]; exact hq _), fun h9 => absurd (nI_le (show H ≤ i by omega) (by omega)) h9⟩
  | f + 1, i, S, l, hS, hJ, hi, hl, hQ => by
    by_cases hs : i = h
    · have hR : rMvI h (f + 1) i = rMvI h f (i + 1) := if_pos hs
      rw [hR] at hl hQ
      refine b_M_lists_35 hS ⟨fun h9 => absurd h9 (nI_ge (by omega) (by omega)), fun _ => ⟨fun _ => ?_, fun h9 => absurd (by rw [hs]) h9⟩⟩
      rw [nI_add]
      exact w_M_mvI hH hh f (i + 1) hS hJ (by omega) hl hQ
    · have hR : rMvI h (f + 1) i = (2, h, i) :: rMvI h f (i + 1) := if_neg hs
      rw [hR] at hl hQ
      simp only [List.length_cons] at hl
      refine b_M_lists_35 hS ⟨fun h9 => absurd h9 (nI_ge (by omega) (by omega)), fun _ => ⟨fun h9 => absurd (nEq (by omega) (by omega) h9).symm hs, fun _ => w_M_choice (k := 2) (a := h) (b := i) (eA_n (by omega)) (eB_n (by omega)) hS hJ (by omega) (fun S1 j1 l1 => b_M_lists_46 (j1.sh hS) ?_)⟩⟩
      rw [nI_add]
      exact w_M_mvI hH hh f (i + 1) (j1.sh hS) l1 (by omega) (by simp only [List.length_append, List.length_cons, List.length_nil]; omega) (fun S' j' l' => hQ S' (j1.tr j') (by rw [List.append_assoc] at l'; exact l'))
theorem w_M_mv {H n : Nat} {Q : ZOut → ZSt → Prop} (hH : H ≤ 3) : ∀ (f h : Nat) {S : ZSt} {l : List Lt} {u5 : Option Value}, zSh S → jLR S l → zI S 132 5 = nI 1 → f + h = H → l.length + (rMv H f h).length ≤ 36 → (∀ S', zJB S S' → jLR S' (l ++ rMv H f h) → ∀ u5, zW 2 m_M_lists 52 [some (.ref 130), some (.int (nI n)), some (.int (nI H)), some (.int (nI 0)), some (.int (nI 0)), u5] [] S' Q) → zW 2 m_M_lists 22 [some (.ref 130), some (.int (nI n)), some (.int (nI H)), some (.int (nI 0)), some (.int (nI h)), u5] [] S Q
  | 0, h, S, l, u5, hS, hJ, hv, hi, hl, hQ => by
    have hq := hQ S zJB.rf (by rw [show rMv H 0 h = [] from rfl, List.append_nil]; exact hJ)
    exact b_M_lists_22 hS ⟨fun _ => hq _, fun h9 => absurd (nI_le (show H ≤ h by omega) (by omega)) h9⟩
  | f + 1, h, S, l, u5, hS, hJ, hv, hi, hl, hQ => by
    have hR : rMv H (f + 1) h = rMvI h H 0 ++ rMv H f (h + 1) := rfl
    rw [hR] at hl hQ
    simp only [List.length_append] at hl
    exact b_M_lists_22 hS ⟨fun h9 => absurd h9 (nI_ge (by omega) (by omega)), fun _ => ⟨zinl rfl, fun h9 => absurd hv h9, fun _ => ⟨fun h9 => absurd (by decide) h9, fun _ => w_M_mvI hH (by omega) H 0 hS hJ (by omega) (by omega) (fun S1 j1 l1 u => w_M_mv hH f (h + 1) (j1.sh hS) l1 (by rw [j1.1.2 132 rfl]; exact hv) (by omega) (by simp only [List.length_append]; omega) (fun S' j' l' => hQ S' (j1.tr j') (by rw [List.append_assoc] at l'; exact l')))⟩⟩⟩
theorem w_M_prI {H n h : Nat} {x3 : Int32} {Q : ZOut → ZSt → Prop} (hH : H ≤ 3) (hh : h < 3) : ∀ (f i : Nat) {S : ZSt} {l : List Lt}, zSh S → jLR S l → f + i = H → l.length + (rPrI h f i).length ≤ 36 → (∀ S', zJB S S' → jLR S' (l ++ rPrI h f i) → ∀ u5, zW 2 m_M_lists 52 [some (.ref 130), some (.int (nI n)), some (.int (nI H)), some (.int (x3)), some (.int (nI (h + 1))), u5] [] S' Q) → zW 2 m_M_lists 67 [some (.ref 130), some (.int (nI n)), some (.int (nI H)), some (.int (x3)), some (.int (nI h)), some (.int (nI i))] [] S Q
  | 0, i, S, l, hS, hJ, hi, hl, hQ => by
    have hq := hQ S zJB.rf (by rw [show rPrI h 0 i = [] from rfl, List.append_nil]; exact hJ)
    refine b_M_lists_67 hS ?_
    exact ⟨fun _ => (by rw [nI_add]; exact hq _), fun h9 => absurd (nI_le (show H ≤ i by omega) (by omega)) h9⟩
  | f + 1, i, S, l, hS, hJ, hi, hl, hQ => by
    have hR : rPrI h (f + 1) i = (3, h, i) :: rPrI h f (i + 1) := rfl
    rw [hR] at hl hQ
    simp only [List.length_cons] at hl
    refine b_M_lists_67 hS ?_
    refine ⟨fun h9 => absurd h9 (nI_ge (by omega) (by omega)), fun _ => w_M_choice (k := 3) (a := h) (b := i) (eA_n (by omega)) (eB_n (by omega)) hS hJ (by omega) (fun S1 j1 l1 => b_M_lists_75 (j1.sh hS) ?_)⟩
    rw [nI_add]
    exact w_M_prI hH hh f (i + 1) (j1.sh hS) l1 (by omega) (by simp only [List.length_append, List.length_cons, List.length_nil]; omega) (fun S' j' l' => hQ S' (j1.tr j') (by rw [List.append_assoc] at l'; exact l'))
theorem w_M_pr {H n : Nat} {Q : ZOut → ZSt → Prop} (hH : H ≤ 3) : ∀ (f h : Nat) {S : ZSt} {l : List Lt} {u5 : Option Value}, zSh S → jLR S l → zI S 132 4 = nI 1 → f + h = H → l.length + (rPr H f h).length ≤ 36 → (∀ S', zJB S S' → jLR S' (l ++ rPr H f h) → ∀ u5, zW 2 m_M_lists 81 [some (.ref 130), some (.int (nI n)), some (.int (nI H)), some (.int (nI 0)), some (.int (nI 0)), u5] [] S' Q) → zW 2 m_M_lists 52 [some (.ref 130), some (.int (nI n)), some (.int (nI H)), some (.int (nI 0)), some (.int (nI h)), u5] [] S Q
  | 0, h, S, l, u5, hS, hJ, hv, hi, hl, hQ => by
    have hq := hQ S zJB.rf (by rw [show rPr H 0 h = [] from rfl, List.append_nil]; exact hJ)
    exact b_M_lists_52 hS ⟨fun _ => hq _, fun h9 => absurd (nI_le (show H ≤ h by omega) (by omega)) h9⟩
  | f + 1, h, S, l, u5, hS, hJ, hv, hi, hl, hQ => by
    have hR : rPr H (f + 1) h = rPrI h f (h + 1) ++ rPr H f (h + 1) := rfl
    rw [hR] at hl hQ
    simp only [List.length_append] at hl
    exact b_M_lists_52 hS ⟨fun h9 => absurd h9 (nI_ge (by omega) (by omega)), fun _ => ⟨zinl rfl, fun h9 => absurd hv h9, fun _ => ⟨fun h9 => absurd (by decide) h9, fun _ => (by rw [nI_add]; exact w_M_prI hH (by omega) f (h + 1) hS hJ (by omega) (by omega) (fun S1 j1 l1 u => w_M_pr hH f (h + 1) (j1.sh hS) l1 (by rw [j1.1.2 132 rfl]; exact hv) (by omega) (by simp only [List.length_append]; omega) (fun S' j' l' => hQ S' (j1.tr j') (by rw [List.append_assoc] at l'; exact l'))))⟩⟩⟩
theorem w_M_emI {H n h : Nat} {x3 : Int32} {Q : ZOut → ZSt → Prop} (hn : n ≤ 3) (hH : H ≤ 3) (hh : h < 3) : ∀ (f i : Nat) {S : ZSt} {l : List Lt}, zSh S → jLR S l → f + i = n + 1 → l.length + (rEmI h f i).length ≤ 36 → (∀ S', zJB S S' → jLR S' (l ++ rEmI h f i) → ∀ u5, zW 2 m_M_lists 81 [some (.ref 130), some (.int (nI n)), some (.int (nI H)), some (.int (x3)), some (.int (nI (h + 1))), u5] [] S' Q) → zW 2 m_M_lists 86 [some (.ref 130), some (.int (nI n)), some (.int (nI H)), some (.int (x3)), some (.int (nI h)), some (.int (nI i))] [] S Q
  | 0, i, S, l, hS, hJ, hi, hl, hQ => by
    have hq := hQ S zJB.rf (by rw [show rEmI h 0 i = [] from rfl, List.append_nil]; exact hJ)
    refine b_M_lists_86 hS ?_
    exact ⟨fun _ => (by rw [nI_add]; exact hq _), fun h9 => absurd (nI_lt (show n < i by omega) (by omega)) h9⟩
  | f + 1, i, S, l, hS, hJ, hi, hl, hQ => by
    have hR : rEmI h (f + 1) i = (4, h, i) :: rEmI h f (i + 1) := rfl
    rw [hR] at hl hQ
    simp only [List.length_cons] at hl
    refine b_M_lists_86 hS ?_
    refine ⟨fun h9 => absurd h9 (nI_nlt (by omega) (by omega)), fun _ => w_M_choice (k := 4) (a := h) (b := i) (eA_n (by omega)) (eB_n (by omega)) hS hJ (by omega) (fun S1 j1 l1 => b_M_lists_94 (j1.sh hS) ?_)⟩
    rw [nI_add]
    exact w_M_emI hn hH hh f (i + 1) (j1.sh hS) l1 (by omega) (by simp only [List.length_append, List.length_cons, List.length_nil]; omega) (fun S' j' l' => hQ S' (j1.tr j') (by rw [List.append_assoc] at l'; exact l'))
theorem w_M_em {H n : Nat} {x3 : Int32} {Q : ZOut → ZSt → Prop} (hn : n ≤ 3) (hH : H ≤ 3) : ∀ (f h : Nat) {S : ZSt} {l : List Lt} {u5 : Option Value}, zSh S → jLR S l → f + h = H → l.length + (rEm n f h).length ≤ 36 → (∀ S', zJB S S' → jLR S' (l ++ rEm n f h) → ∀ u5, zW 2 m_M_lists 100 [some (.ref 130), some (.int (nI n)), some (.int (nI H)), some (.int (x3)), some (.int (nI 0)), u5] [] S' Q) → zW 2 m_M_lists 81 [some (.ref 130), some (.int (nI n)), some (.int (nI H)), some (.int (x3)), some (.int (nI h)), u5] [] S Q
  | 0, h, S, l, u5, hS, hJ, hi, hl, hQ => by
    have hq := hQ S zJB.rf (by rw [show rEm n 0 h = [] from rfl, List.append_nil]; exact hJ)
    exact b_M_lists_81 hS ⟨fun _ => hq _, fun h9 => absurd (nI_le (show H ≤ h by omega) (by omega)) h9⟩
  | f + 1, h, S, l, u5, hS, hJ, hi, hl, hQ => by
    have hR : rEm n (f + 1) h = rEmI h (n + 1) 0 ++ rEm n f (h + 1) := rfl
    rw [hR] at hl hQ
    simp only [List.length_append] at hl
    exact b_M_lists_81 hS ⟨fun h9 => absurd h9 (nI_ge (by omega) (by omega)), fun _ => w_M_emI hn hH (by omega) (n + 1) 0 hS hJ (by omega) (by omega) (fun S1 j1 l1 u => w_M_em hn hH f (h + 1) (j1.sh hS) l1 (by omega) (by simp only [List.length_append]; omega) (fun S' j' l' => hQ S' (j1.tr j') (by rw [List.append_assoc] at l'; exact l')))⟩
theorem w_M_go {H n : Nat} {x3 : Int32} {Q : ZOut → ZSt → Prop} (hn : n ≤ 3) : ∀ (f i : Nat) {S : ZSt} {l : List Lt} {u5 : Option Value}, zSh S → jLR S l → f + i = n + 1 → l.length + (rGo f i).length ≤ 36 → (∀ S', zJB S S' → jLR S' (l ++ rGo f i) → zW 2 m_M_lists 112 [some (.ref 130), some (.int (nI n)), some (.int (nI H)), some (.int (x3)), some (.int (nI 0)), u5] [] S' Q) → zW 2 m_M_lists 100 [some (.ref 130), some (.int (nI n)), some (.int (nI H)), some (.int (x3)), some (.int (nI i)), u5] [] S Q
  | 0, i, S, l, u5, hS, hJ, hi, hl, hQ => by
    have hq := hQ S zJB.rf (by rw [show rGo 0 i = [] from rfl, List.append_nil]; exact hJ)
    refine b_M_lists_100 hS ?_
    exact ⟨fun _ => hq, fun h9 => absurd (nI_lt (show n < i by omega) (by omega)) h9⟩
  | f + 1, i, S, l, u5, hS, hJ, hi, hl, hQ => by
    have hR : rGo (f + 1) i = (9, i, 0) :: rGo f (i + 1) := rfl
    rw [hR] at hl hQ
    simp only [List.length_cons] at hl
    refine b_M_lists_100 hS ?_
    refine ⟨fun h9 => absurd h9 (nI_nlt (by omega) (by omega)), fun _ => w_M_choice (k := 9) (a := i) (b := 0) (eA_n (by omega)) (eB_no (by omega)) hS hJ (by omega) (fun S1 j1 l1 => b_M_lists_108 (j1.sh hS) ?_)⟩
    rw [nI_add]
    exact w_M_go hn f (i + 1) (j1.sh hS) l1 (by omega) (by simp only [List.length_append, List.length_cons, List.length_nil]; omega) (fun S' j' l' => hQ S' (j1.tr j') (by rw [List.append_assoc] at l'; exact l'))
theorem w_M_sayL {H n wd : Nat} {x3 : Int32} {Q : ZOut → ZSt → Prop} (hw : wd ≤ 3) : ∀ (f i : Nat) {S : ZSt} {l : List Lt} {u5 : Option Value}, zSh S → jLR S l → zI S 132 3 = nI wd → f + i = wd + 1 → l.length + (rSay f i).length ≤ 36 → (∀ S', zJB S S' → jLR S' (l ++ rSay f i) → ∀ x : Int32, zC m_M_choice [.ref 130, .int (nI 11), .int (- nI 1), .int (- nI 1)] S' (zback m_M_lists 249 129 [some (.ref 130), some (.int (nI n)), some (.int (nI H)), some (.int (x3)), some (.int (x)), u5] [] (fun i1 l1 s1 S1 => zW 2 m_M_lists i1 l1 s1 S1 Q) (fun x S1 => Q (.inr x) S1))) → zW 2 m_M_lists 112 [some (.ref 130), some (.int (nI n)), some (.int (nI H)), some (.int (x3)), some (.int (nI i)), u5] [] S Q
  | 0, i, S, l, u5, hS, hJ, hv, hi, hl, hQ => by
    have hq := hQ S zJB.rf (by rw [show rSay 0 i = [] from rfl, List.append_nil]; exact hJ)
    refine b_M_lists_112 hS ?_
    rw [hv]
    exact ⟨zinl rfl, ⟨fun _ => hq _, fun h9 => absurd (nI_lt (show wd < i by omega) (by omega)) h9⟩⟩
  | f + 1, i, S, l, u5, hS, hJ, hv, hi, hl, hQ => by
    have hR : rSay (f + 1) i = (10, i, 0) :: rSay f (i + 1) := rfl
    rw [hR] at hl hQ
    simp only [List.length_cons] at hl
    refine b_M_lists_112 hS ?_
    rw [hv]
    refine ⟨zinl rfl, ⟨fun h9 => absurd h9 (nI_nlt (by omega) (by omega)), fun _ => w_M_choice (k := 10) (a := i) (b := 0) (eA_n (by omega)) (eB_no (by omega)) hS hJ (by omega) (fun S1 j1 l1 => b_M_lists_123 (j1.sh hS) ?_)⟩⟩
    rw [nI_add]
    exact w_M_sayL hw f (i + 1) (j1.sh hS) l1 (by rw [j1.1.2 132 rfl]; exact hv) (by omega) (by simp only [List.length_append, List.length_cons, List.length_nil]; omega) (fun S' j' l' => hQ S' (j1.tr j') (by rw [List.append_assoc] at l'; exact l'))
