/-! A TASK's text, the object's reader: what waits, what was said, flags -/
def bo (x : Bool) : Int32 := if x = true then nI 1 else nI 0
theorem bo_t : bo true = nI 1 := rfl
theorem bo_f : bo false = nI 0 := rfl
def jWt (f : Nat → Int32) : List Nat → Prop
  | [] => True
  | s :: W => (f W.length = nI s ∧ s ≤ 17) ∧ jWt f W
theorem jWt.c {f g : Nat → Int32} : ∀ (W : List Nat), jWt f W → (∀ j, j < W.length → g j = f j) → jWt g W
  | [], _, _ => trivial
  | s :: W, h, e => ⟨⟨(e W.length (Nat.lt_succ_self _)).trans h.1.1, h.1.2⟩, jWt.c W h.2 (fun j hj => e j (Nat.lt_succ_of_lt hj))⟩
def jWa (S : ZSt) (W : List Nat) (op : Nat) : Prop := zI S 86 4 = nI W.length ∧ zI S 86 5 = nI op ∧ jWt (zI S 89) W
def jOu (S : ZSt) (o : List (Nat × Nat)) : Prop := zI S 86 2 = nI o.length ∧ ∀ i, i < o.length → zI S 87 i = nI (o.getD i (0, 0)).1 ∧ zI S 88 i = nI (o.getD i (0, 0)).2
def jFg (S : ZSt) (lv bb ev cp : Bool) : Prop := (zI S 86 6 = bo lv ∧ zI S 86 7 = bo bb) ∧ ((zI S 86 8 = 0 ↔ ev = false) ∧ zI S 86 9 = bo cp)
theorem jOu.c {S S' : ZSt} {o : List (Nat × Nat)} (h : jOu S o) (e2 : zI S' 86 2 = zI S 86 2) (e7 : zI S' 87 = zI S 87) (e8 : zI S' 88 = zI S 88) : jOu S' o := by
  unfold jOu
  rw [e2, e7, e8]
  exact h
theorem jWa.c {S S' : ZSt} {W : List Nat} {op : Nat} (h : jWa S W op) (e4 : zI S' 86 4 = zI S 86 4) (e5 : zI S' 86 5 = zI S 86 5) (e9 : zI S' 89 = zI S 89) : jWa S' W op := by
  unfold jWa
  rw [e4, e5, e9]
  exact h
theorem jFg.c {S S' : ZSt} {lv bb ev cp : Bool} (h : jFg S lv bb ev cp) (e : ∀ j, 6 ≤ j → zI S' 86 j = zI S 86 j) : jFg S' lv bb ev cp := by
  unfold jFg
  rw [e 6 (by omega), e 7 (by omega), e 8 (by omega), e 9 (by omega)]
  exact h
/-- what the reading of a task may change -/
def zTj (S S' : ZSt) : Prop := zJ [76, 86, 87, 88, 89] S S' ∧ ∀ j, j < 3 → zI S' 76 j = zI S 76 j
theorem zTj.rf {S : ZSt} : zTj S S := ⟨zJ.rf, fun _ _ => rfl⟩
theorem zTj.tr {S S1 S2 : ZSt} (h1 : zTj S S1) (h2 : zTj S1 S2) : zTj S S2 := ⟨h1.1.tr h2.1, fun j hj => (h2.2 j hj).trans (h1.2 j hj)⟩
theorem zJ7.j {S S' : ZSt} (h : zJ7 S S') : zTj S S' := ⟨⟨h.1.1, fun c hc => h.1.2 c (zsub_of rfl c hc)⟩, fun j hj => h.2 j (Or.inl hj)⟩
theorem zJ.j {S S' : ZSt} (h : zJ [86, 87, 88, 89] S S') : zTj S S' := ⟨⟨h.1, fun c hc => h.2 c (zsub_of rfl c hc)⟩, fun j _ => by rw [h.2 76 rfl]⟩
theorem jTx.j {S S' : ZSt} {b : Nat → Nat} {e : Nat} (h : jTx S b e) (j : zTj S S') : jTx S' b e := ⟨h.1, (j.2 2 (by omega)).trans h.2.1, fun k hk => ⟨(h.2.2 k hk).1, by rw [j.1.2 77 rfl]; exact (h.2.2 k hk).2⟩⟩
theorem zTj.bad {S S' : ZSt} {k t : Nat} (j : zTj S S') : zTj S (zsI (zsI S' 76 7 (nI k)) 76 8 (nI t)) := ⟨(j.1.I rfl).I rfl, fun i hi => by rw [zI_o (by omega), zI_o (by omega)]; exact j.2 i hi⟩
theorem w_TR_add {s n : Nat} {o : List (Nat × Nat)} {S : ZSt} {Q : ZOut → ZSt → Prop} (hS : zSh S) (h : jOu S o) (hl : o.length < 400) (hQ : ∀ S', zJ [86, 87, 88, 89] S S' → (∀ j, j ≠ 2 → zI S' 86 j = zI S 86 j) → zI S' 89 = zI S 89 → jOu S' (o ++ [(s, n)]) → Q (.inl none) S') : zC m_TR_add [.ref 86, .int (nI s), .int (nI n)] S Q := by
  obtain ⟨h2, hr⟩ := h
  refine b_TR_add hS ?_
  rw [h2, zcl9 (by omega), nI_add]
  refine ⟨fun h9 => absurd h9 (nI_ge (by omega) (by omega)), fun _ => ⟨zin hl (by omega), zin hl (by omega), hQ _ (((zJ.rf.I rfl).I rfl).I rfl) (fun j hj => by rw [zI_o hj, zI_ne _ _ (by omega), zI_ne _ _ (by omega)]) (by rw [zI_ne _ _ (by omega), zI_ne _ _ (by omega), zI_ne _ _ (by omega)]) ⟨?_, fun i hi => ?_⟩⟩⟩
  · rw [zI_s, List.length_append]
    rfl
  · rw [List.length_append] at hi
    have hi' : i < o.length + 1 := hi
    rw [zI_ne (c := 87) _ _ (by omega), zI_ne (c := 87) _ _ (by omega), zI_ne (c := 88) _ _ (by omega)]
    by_cases e : i = o.length
    · have e1 : (o ++ [(s, n)]).getD i (0, 0) = (s, n) := by
        rw [List.getD_eq_getElem?_getD, List.getElem?_append_right (by omega), e, Nat.sub_self]
        rfl
      rw [e1, e, zI_s, zI_s]
      exact ⟨rfl, rfl⟩
    · have e1 : (o ++ [(s, n)]).getD i (0, 0) = o.getD i (0, 0) := by
        rw [List.getD_eq_getElem?_getD, List.getElem?_append_left (by omega), ← List.getD_eq_getElem?_getD]
      rw [e1, zI_o e, zI_o e, zI_ne (c := 88) _ _ (by omega)]
      exact hr i (by omega)
theorem w_TR_letWait {s op : Nat} {W : List Nat} {S : ZSt} {Q : ZOut → ZSt → Prop} (hS : zSh S) (h : jWa S W op) (hl : W.length < 32) (hs : s ≤ 17) (hQ : ∀ S', zJ [86, 87, 88, 89] S S' → (∀ j, j ≠ 4 → zI S' 86 j = zI S 86 j) → zI S' 87 = zI S 87 → zI S' 88 = zI S 88 → jWa S' (s :: W) op → Q (.inl none) S') : zC m_TR_letWait [.ref 86, .int (nI s)] S Q := by
  obtain ⟨h4, h5, hw⟩ := h
  refine b_TR_letWait hS ?_
  rw [h4, zcl9 (by omega), nI_add]
  refine ⟨fun h9 => absurd h9 (nI_ge (by omega) (by omega)), fun _ => ⟨zin hl (by omega), hQ _ ((zJ.rf.I rfl).I rfl) (fun j hj => by rw [zI_o hj, zI_ne _ _ (by omega)]) (by rw [zI_ne _ _ (by omega), zI_ne _ _ (by omega)]) (by rw [zI_ne _ _ (by omega), zI_ne _ _ (by omega)]) ⟨zI_s, ?_, ⟨?_, hs⟩, ?_⟩⟩⟩
  · rw [zI_o (by omega), zI_ne _ _ (by omega)]
    exact h5
  · rw [zI_ne (c := 89) _ _ (by omega), zI_s]
  · refine hw.c W (fun j hj => ?_)
    rw [zI_ne (c := 89) _ _ (by omega), zI_o (by omega)]
theorem rnk : ∀ i, i < 18 → (zcon.getD 6 []).getD i 0 = nI (ran i) := by decide +kernel
theorem w_TR_rankOf {s : Nat} {S : ZSt} {Q : ZOut → ZSt → Prop} (hS : zSh S) (hC : zCst S) (hs : s ≤ 17) (hQ : Q (.inl (some (.int (nI (ran s))))) S) : zC m_TR_rankOf [.int (nI s)] S Q := by
  refine b_TR_rankOf hS (w_N_isNotU (A := 18) (by omega) hS (fun _ => b_TR_rankOf_7 hS ⟨fun _ => ⟨zin (by omega) (by omega), ?_⟩, fun h9 => absurd rfl h9⟩) (fun h9 => absurd rfl (h9 s (by omega))))
  rw [zcl9 (by omega), hC 6 s (by omega) (by omega), rnk s (by omega)]
  exact hQ
theorem ran_le {s : Nat} : ran s ≤ 6 := by
  unfold ran
  split
  · omega
  · split
    · omega
    · split
      · omega
      · split
        · omega
        · split
          · omega
          · split <;> omega
/-- all that wait and bind at least so closely are worked off -/
theorem w_TR_workOff0 {r : Nat} (hr : 1 ≤ r ∧ r ≤ 6) {Q : ZOut → ZSt → Prop} : ∀ (W : List Nat) (op : Nat) (o : List (Nat × Nat)) {S : ZSt}, zSh S → zCst S → wsz W op → op ≤ 6 → jWa S W op → jOu S o → o.length + W.length ≤ 400 → W.length ≤ 32 → (∀ S', zJ [86, 87, 88, 89] S S' → (∀ j, 6 ≤ j → zI S' 86 j = zI S 86 j) → jWa S' (wof r W op o).1 (wof r W op o).2.1 → jOu S' (wof r W op o).2.2 → Q (.inl none) S') → zW 3 m_TR_workOff 0 [some (.ref 86), some (.int (nI r))] [] S Q
  | [], op, o, S, hS, hC, hz, h6, hw, ho, hl, h32, hQ => by
    refine b_TR_workOff_0 hS ?_
    rw [hw.1]
    exact ⟨fun _ => hQ S zJ.rf (fun _ _ => rfl) hw ho, fun h9 => absurd (by decide) h9⟩
  | s :: W, op, o, S, hS, hC, hz, h6, hw, ho, hl, h32, hQ => by
    obtain ⟨w4, w5, ⟨w9, ws⟩, wr⟩ := hw
    have eL : (s :: W).length = W.length + 1 := rfl
    rw [eL] at w4 hl h32
    refine b_TR_workOff_0 hS ?_
    rw [w4, pk_sub (by omega), show W.length + 1 - 1 = W.length by omega, zcl9 (by omega), w9]
    refine ⟨fun h9 => absurd (by rw [← nI_0] at h9; exact h9) (nI_ge (by omega) (by omega)), fun _ => ⟨fun h9 => absurd ((nI_ltI (by omega) (by omega)).mp h9) (by omega), fun _ => ⟨zin (by omega) (by omega), w_TR_rankOf hS hC ws (b_TR_workOff_15 hS ?_)⟩⟩⟩
    have er := ran_le (s := s)
    rw [w4, pk_sub (by omega), show W.length + 1 - 1 = W.length by omega, zcl9 (by omega), w9]
    by_cases c : r ≤ ran s
    · rw [wof_s c] at hQ
      refine ⟨fun h9 => absurd ((nI_ltI (by omega) (by omega)).mp h9) (by omega), fun _ => ⟨zin (by omega) (by omega), fun h9 => ⟨zin (by omega) (by omega), ?_⟩, fun h9 => ⟨zin (by omega) (by omega), ?_⟩⟩⟩
      · have n14 : s ≠ 14 := fun y => h9 (by rw [y])
        rw [if_neg n14] at hQ
        have no : ¬ opn s := fun y => by
          rcases y with y | y | y
          · exact n14 y
          · rw [y] at c
            exact absurd c (by show ¬ r ≤ 0; omega)
          · rw [y] at c
            exact absurd c (by show ¬ r ≤ 0; omega)
        have j1 : zJ [86, 87, 88, 89] S (zsI S 86 4 (nI W.length)) := zJ.rf.I rfl
        have ho1 : jOu (zsI S 86 4 (nI W.length)) o := ho.c (zI_o (by omega)) (zI_ne _ _ (by omega)) (zI_ne _ _ (by omega))
        have hS1 := j1.sh hS
        refine w_TR_add hS1 ho1 (by omega) (fun S2 j2 f2 g2 o2 => b_TR_workOff_44 (j2.sh hS1) (w_TR_workOff0 hr W op (o ++ [(s, 0)]) (j2.sh hS1) (hC.J (j1.tr j2) rfl) (hz.1.2 no) h6 ⟨?_, ?_, ?_⟩ o2 ?_ (by omega) (fun S3 j3 f3 w3 o3 => hQ S3 ((j1.tr j2).tr j3) (fun j hj => ?_) w3 o3)))
        · rw [f2 4 (by omega), zI_s]
        · rw [f2 5 (by omega), zI_o (by omega)]
          exact w5
        · rw [g2, zI_ne _ _ (by omega)]
          exact wr
        · rw [List.length_append]
          show o.length + 1 + W.length ≤ 400
          omega
        · rw [f3 j hj, f2 j (by omega), zI_o (by omega)]
      · have e14 : s = 14 := nEq (by omega) (by omega) (Classical.not_not.mp h9)
        rw [if_pos e14] at hQ
        obtain ⟨p1, p2⟩ := hz.1.1 (Or.inl e14)
        have j1 : zJ [86, 87, 88, 89] S (zsI (zsI S 86 4 (nI W.length)) 86 5 (zI S 86 5 - nI 1)) := (zJ.rf.I rfl).I rfl
        have ho1 : jOu (zsI (zsI S 86 4 (nI W.length)) 86 5 (zI S 86 5 - nI 1)) o := ho.c (by rw [zI_o (by omega), zI_o (by omega)]) (by rw [zI_ne _ _ (by omega), zI_ne _ _ (by omega)]) (by rw [zI_ne _ _ (by omega), zI_ne _ _ (by omega)])
        have hS1 := j1.sh hS
        refine w_TR_add hS1 ho1 (by omega) (fun S2 j2 f2 g2 o2 => b_TR_workOff_44 (j2.sh hS1) (w_TR_workOff0 hr W (op - 1) (o ++ [(s, 0)]) (j2.sh hS1) (hC.J (j1.tr j2) rfl) p2 (by omega) ⟨?_, ?_, ?_⟩ o2 ?_ (by omega) (fun S3 j3 f3 w3 o3 => hQ S3 ((j1.tr j2).tr j3) (fun j hj => ?_) w3 o3)))
        · rw [f2 4 (by omega), zI_o (by omega), zI_s]
        · rw [f2 5 (by omega), zI_s, w5, pk_sub (by omega)]
        · rw [g2, zI_ne _ _ (by omega), zI_ne _ _ (by omega)]
          exact wr
        · rw [List.length_append]
          show o.length + 1 + W.length ≤ 400
          omega
        · rw [f3 j hj, f2 j (by omega), zI_o (by omega), zI_o (by omega)]
    · rw [wof_lt (show trw (s :: W) < r from Nat.lt_of_not_le c)] at hQ
      exact ⟨fun _ => hQ S zJ.rf (fun _ _ => rfl) ⟨w4, w5, ⟨w9, ws⟩, wr⟩ ho, fun h9 => absurd (nI_lt (by omega) (by omega)) h9⟩
theorem w_TR_workOff {r op : Nat} {W : List Nat} {o : List (Nat × Nat)} {S : ZSt} {Q : ZOut → ZSt → Prop} (hr : 1 ≤ r ∧ r ≤ 6) (hS : zSh S) (hC : zCst S) (hz : wsz W op) (h6 : op ≤ 6) (hw : jWa S W op) (ho : jOu S o) (hl : o.length + W.length ≤ 400) (h32 : W.length ≤ 32) (hQ : ∀ S', zJ [86, 87, 88, 89] S S' → (∀ j, 6 ≤ j → zI S' 86 j = zI S 86 j) → jWa S' (wof r W op o).1 (wof r W op o).2.1 → jOu S' (wof r W op o).2.2 → Q (.inl none) S') : zC m_TR_workOff [.ref 86, .int (nI r)] S Q := by
  have h := w_TR_workOff0 hr W op o hS hC hz h6 hw ho hl h32 hQ
  exact h
theorem wof_p {r : Nat} {O : List (Nat × Nat)} : ∀ (W : List Nat) (op : Nat) (o : List (Nat × Nat)), wof r W op (O ++ o) = ((wof r W op o).1, (wof r W op o).2.1, O ++ (wof r W op o).2.2)
  | [], _, _ => rfl
  | s :: W, op, o => by
    by_cases c : r ≤ ran s
    · rw [wof_s c, wof_s c, List.append_assoc, wof_p W]
    · rw [wof_lt (show trw (s :: W) < r from Nat.lt_of_not_le c), wof_lt (show trw (s :: W) < r from Nat.lt_of_not_le c)]
def inO (W : List Nat) : Int32 := if inn W = 0 then - nI 1 else nI (inn W)
theorem w_TR_inn7 {Q : ZOut → ZSt → Prop} {S : ZSt} (hS : zSh S) : ∀ (W : List Nat), jWt (zI S 89) W → W.length ≤ 32 → Q (.inl (some (.int (inO W)))) S → zW 1 m_TR_innermostOpen 7 [some (.ref 86), some (.int (nI W.length - nI 1))] [] S Q
  | [], _, _, hQ => b_TR_innermostOpen_7 hS ⟨fun _ => hQ, fun h9 => absurd (by decide) h9⟩
  | s :: W, hw, h32, hQ => by
    obtain ⟨⟨w9, ws⟩, wr⟩ := hw
    have eL : (s :: W).length = W.length + 1 := rfl
    rw [eL] at h32
    refine b_TR_innermostOpen_7 hS ?_
    rw [eL, pk_sub (by omega), show W.length + 1 - 1 = W.length by omega, zcl9 (by omega), w9]
    have ei : inn (s :: W) = if s = 16 ∨ s = 17 then s else inn W := rfl
    have wi : W.length < 32 := by omega
    have wn : ¬ nI W.length < 0 := fun h9 => by rw [← nI_0] at h9; exact absurd ((nI_ltI (by omega) (by omega)).mp h9) (by omega)
    refine ⟨fun h9 => absurd h9 wn, fun _ => ⟨zin wi (by omega), fun h6 => ⟨zin wi (by omega), ?_⟩, fun h6 => ⟨zin wi (by omega), fun h7 => ?_, fun h7 => ⟨zin wi (by omega), ?_⟩⟩⟩⟩
    · have e6 : s = 16 := nEq (by omega) (by omega) h6
      unfold inO at hQ
      rw [ei, if_pos (Or.inl e6), if_neg (by omega)] at hQ
      exact hQ
    · have n6 : ¬ (s = 16 ∨ s = 17) := fun y => by
        rcases y with y | y
        · exact h6 (by rw [y])
        · exact h7 (by rw [y])
      have := w_TR_inn7 hS W wr (by omega) (by
        unfold inO at hQ ⊢
        rw [ei, if_neg n6] at hQ
        exact hQ)
      rw [Int32.sub_eq_add_neg] at this
      exact this
    · have e7 : s = 17 := nEq (by omega) (by omega) (Classical.not_not.mp h7)
      unfold inO at hQ
      rw [ei, if_pos (Or.inr e7), if_neg (by omega)] at hQ
      exact hQ
theorem w_TR_innermostOpen {W : List Nat} {op : Nat} {S : ZSt} {Q : ZOut → ZSt → Prop} (hS : zSh S) (hw : jWa S W op) (h32 : W.length ≤ 32) (hQ : Q (.inl (some (.int (inO W)))) S) : zC m_TR_innermostOpen [.ref 86] S Q := by
  refine b_TR_innermostOpen hS ?_
  rw [hw.1, if_neg (fun h9 => absurd ((nI_ltI (by omega) (by omega)).mp h9) (by omega))]
  exact w_TR_inn7 hS W hw.2.2 h32 hQ
