/-! A TASK's text, the reference's side: what is true or not -/
def dO (b : Nat → Nat) (e F0 f : Nat) : Prop := ∀ (d op p : Nat) (W : List Nat) (o : List (Nat × Nat)) (ev : Bool) (R : ZRm) (S : ZSt) (Q : ZOut → ZSt → Prop), 63 + 3 * (7 - op) ≤ d → jRd S b e p op F0 o W.length → e < f + p → trw W < 4 → inn W ≠ 16 → om b e f true true ev false W op p o = R → pBad F0 e S R Q → (∀ f' p' o' bb' ev' cp' W2 op2 ow2 S', f' < f → p < p' → e < f' + p' → om b e f' false bb' ev' cp' W2 op2 p' ow2 = R → wof 3 W2 op2 ow2 = wof 3 W op o' → (ev' = true → cp' = true ∧ sj (hr b e p') = 0) → zMt F0 S S' → jRd S' b e p' op F0 o' W.length → Q (.inl none) S') → zW d m_M_oneOf 0 [some (.ref 130), none] [] S Q
def dX (b : Nat → Nat) (e F0 f : Nat) : Prop := ∀ (d op p : Nat) (W : List Nat) (o : List (Nat × Nat)) (ev : Bool) (R : ZRm) (S : ZSt) (Q : ZOut → ZSt → Prop), 64 + 3 * (7 - op) ≤ d → jRd S b e p op F0 o W.length → e < f + p → trw W < 2 → inn W ≠ 16 → om b e f true true ev false W op p o = R → pBad F0 e S R Q → (∀ f' p' o' bb' ev' cp' W2 op2 ow2 S', f' < f → p < p' → e < f' + p' → om b e f' false bb' ev' cp' W2 op2 p' ow2 = R → wof 2 W2 op2 ow2 = (W, op, o') → (ev' = true → cp' = true ∧ sj (hr b e p') = 0) → tkW b e p' ≠ sV 71 → zMt F0 S S' → jRd S' b e p' op F0 o' W.length → Q (.inl none) S') → zW d m_M_allOf 0 [some (.ref 130)] [] S Q
def dXL (b : Nat → Nat) (e F0 f : Nat) : Prop := ∀ (d op p op' : Nat) (W W' : List Nat) (o ow : List (Nat × Nat)) (bb ev cp : Bool) (R : ZRm) (S : ZSt) (Q : ZOut → ZSt → Prop), 64 + 3 * (7 - op) ≤ d → jRd S b e p op F0 o W.length → e < f + p → trw W < 2 → inn W ≠ 16 → (ev = true → cp = true ∧ sj (hr b e p) = 0) → om b e f false bb ev cp W' op' p ow = R → wof 2 W' op' ow = (W, op, o) → pBad F0 e S R Q → (∀ f' p' o' bb' ev' cp' W2 op2 ow2 S', f' ≤ f → p ≤ p' → e < f' + p' → om b e f' false bb' ev' cp' W2 op2 p' ow2 = R → wof 2 W2 op2 ow2 = (W, op, o') → (ev' = true → cp' = true ∧ sj (hr b e p') = 0) → tkW b e p' ≠ sV 71 → zMt F0 S S' → jRd S' b e p' op F0 o' W.length → Q (.inl none) S') → zW d m_M_allOf 2 [some (.ref 130)] [] S Q
def dA (b : Nat → Nat) (e F0 f : Nat) : Prop := ∀ (d op p : Nat) (W : List Nat) (o : List (Nat × Nat)) (ev : Bool) (R : ZRm) (S : ZSt) (Q : ZOut → ZSt → Prop), 65 + 3 * (7 - op) ≤ d → jRd S b e p op F0 o W.length → e < f + p → trw W < 1 → inn W ≠ 16 → om b e f true true ev false W op p o = R → pBad F0 e S R Q → (∀ f' p' o' bb' ev' cp' W2 op2 ow2 S', f' < f → p < p' → e < f' + p' → om b e f' false bb' ev' cp' W2 op2 p' ow2 = R → wof 1 W2 op2 ow2 = (W, op, o') → (ev' = true → cp' = true ∧ sj (hr b e p') = 0) → sw (tkW b e p') = 0 → zMt F0 S S' → jRd S' b e p' op F0 o' W.length → Q (.inl none) S') → zW d m_M_anyOf 0 [some (.ref 130)] [] S Q
def dAL (b : Nat → Nat) (e F0 f : Nat) : Prop := ∀ (d op p op' : Nat) (W W' : List Nat) (o ow : List (Nat × Nat)) (bb ev cp : Bool) (R : ZRm) (S : ZSt) (Q : ZOut → ZSt → Prop), 65 + 3 * (7 - op) ≤ d → jRd S b e p op F0 o W.length → e < f + p → trw W < 1 → inn W ≠ 16 → (ev = true → cp = true ∧ sj (hr b e p) = 0) → tkW b e p ≠ sV 71 → om b e f false bb ev cp W' op' p ow = R → wof 1 W' op' ow = (W, op, o) → pBad F0 e S R Q → (∀ f' p' o' bb' ev' cp' W2 op2 ow2 S', f' ≤ f → p ≤ p' → e < f' + p' → om b e f' false bb' ev' cp' W2 op2 p' ow2 = R → wof 1 W2 op2 ow2 = (W, op, o') → (ev' = true → cp' = true ∧ sj (hr b e p') = 0) → sw (tkW b e p') = 0 → zMt F0 S S' → jRd S' b e p' op F0 o' W.length → Q (.inl none) S') → zW d m_M_anyOf 2 [some (.ref 130)] [] S Q
theorem wLt {b : Nat → Nat} {e p w : Nat} (hp : p ≤ e) (hw : w ≠ 0) (h : tkW b e p = w) : tkS b e p < e ∧ tkS b e p < tkE b e p ∧ tkE b e p ≤ e := by
  have k1 := tkW_1 hw h
  have kk : ¬ tkS b e p = e := fun z => by
    have := (tkK_0 hp).mpr z
    omega
  have := (tkS_le (b := b) hp).2
  exact ⟨by omega, tkE_gt (by omega), tkE_le hp⟩
/-- behind a B: what is joined by 'and' -/
theorem l_XL {b : Nat → Nat} {e F0 f : Nat} (hu : ∀ f', f' < f → dO b e F0 f') (hl : ∀ f', f' < f → dXL b e F0 f') : dXL b e F0 f := fun d op p op' W W' o ow bb ev cp R S Q hd h hf ht hi hv hR hw bad ok => by
  obtain ⟨hc, hp, he, h6⟩ := h.b
  obtain ⟨s1, s2⟩ := tkS_le (b := b) hp
  obtain ⟨y1, y2, y3, y4, y5⟩ := tk_S (b := b) hp
  have y0 := tkS_tkS (b := b) hp
  have hd5 : 50 ≤ d := by omega
  have vlt := tkW_lt (b := b) (e := e) (p := p)
  obtain ⟨v0, v1, v2, v3, v4, v5, v6, z1, z2, z3, z4, z5, z6, z7⟩ := sVne
  have ne : nI (tkW b e p) = nI (sV 71) ↔ tkW b e p = sV 71 := nI_eq (by omega) (sV_l rfl)
  have hR0 := hR
  obtain ⟨g, rfl⟩ : ∃ g, f = g + 1 := ⟨f - 1, by omega⟩
  rw [om_f] at hR
  refine e_M_allOf_2 hd5 h.1 (r_fine h (e_M_allOf_4 hd5 h.1 ⟨fun z => absurd z (by decide), fun _ => r_word h (fun S1 m1 h1 => e_M_allOf_7 hd5 h1.1 (w_M_of rfl h1.1 h1.2.1 (e_M_allOf_9 hd5 h1.1 ⟨fun z => ?_, fun z => ?_⟩)))⟩))
  · refine ok (g + 1) (tkS b e p) o bb ev cp W' op' ow S1 (Nat.le_refl _) s1 (by omega) (by rw [om_S hp]; exact hR0) hw (by rw [y5]; exact hv) ?_ m1 h1
    rw [y4]
    exact fun y => z (ne.mpr y)
  · have cw := ne.mp (Classical.not_not.mp z)
    obtain ⟨lt, gt, ge⟩ := wLt hp z6 cw
    have s13 : sw (tkW b e p) = 13 := by
      unfold sw
      rw [cw, if_neg (fun y => v0 y.symm), if_pos rfl]
    have iw : inn W' ≠ 16 := by
      rw [inn_of (by omega) hw]
      exact hi
    rw [if_neg (fun y => y.2 (hv y.1).2), if_neg iw, if_neg (fun y => by have := (hv y.1).1; rw [this] at y; exact absurd y.2 (by decide)), if_pos (by omega), s13, show ran 13 = 2 from rfl, hw] at hR
    refine r_pass h1 hp (tkW_1 z6 cw) (fun S2 m2 h2 => e_M_allOf_12 hd5 h2.1 ?_)
    have M2 := m1.tr m2
    refine hu g (by omega) (d - 1) op (tkE b e p) (13 :: W) o ev R S2 _ (by omega) (h2.up (by show F0 + o.length + (W.length + 1) ≤ _; omega)) (by omega) (by show (2 : Nat) < 4; omega) hi hR (fun k t r1 r2 r3 S4 m4 s4 d4 => e_M_allOf_14 hd5 s4 (q_emit s4 d4 (by omega) (e_M_allOf_18 hd5 s4 (q_all2 hd5 s4 d4 (by omega) (bad k t r1 r2 r3 S4 (M2.tr m4) s4 d4))))) (fun f' p' o' bb' ev' cp' W2 op2 ow2 S4 l1 l2 l3 r1 r2 r3 m4 h4 => e_M_allOf_14 hd5 h4.1 (r_emit (c := 13) rfl h4 (fun S5 m5 h5 => e_M_allOf_18 hd5 h5.1 ?_)))
    have w3 : wof 3 (13 :: W) op o' = (13 :: W, op, o') := wof_lt (by show (2 : Nat) < 3; omega)
    rw [w3] at r2
    have w2 : wof 2 W2 op2 ow2 = (W, op, o' ++ [(13, 0)]) := by
      rw [wof_of (r := 3) (by omega) r2, wof_s (by show 2 ≤ 2; omega), if_neg (by omega)]
      exact wof_lt ht
    exact hl f' (by omega) d op p' op2 W W2 _ ow2 bb' ev' cp' R S5 Q hd h5 l3 ht hi r3 r1 w2 (bad.of ((M2.tr m4).tr m5)) (fun f2 p2 o2 bb2 ev2 cp2 W3 op3 ow3 S6 q1 q2 q3 q4 q5 q6 q7 m6 h6' => ok f2 p2 o2 bb2 ev2 cp2 W3 op3 ow3 S6 (by omega) (by omega) q3 q4 q5 q6 q7 (((M2.tr m4).tr m5).tr m6) h6')
theorem l_X {b : Nat → Nat} {e F0 f : Nat} (hu : dO b e F0 f) (hl : ∀ f', f' < f → dXL b e F0 f') : dX b e F0 f := fun d op p W o ev R S Q hd h hf ht hi hR bad ok => by
  obtain ⟨hc, hp, he, h6⟩ := h.b
  have hd5 : 50 ≤ d := by omega
  refine e_M_allOf hd5 h.1 (hu (d - 1) op p W o ev R S _ (by omega) h hf (by omega) hi hR (fun k t r1 r2 r3 S4 m4 s4 d4 => q_all2 hd5 s4 d4 (by omega) (bad k t r1 r2 r3 S4 m4 s4 d4)) (fun f' p' o' bb' ev' cp' W2 op2 ow2 S4 l1 l2 l3 r1 r2 r3 m4 h4 => ?_))
  have w3 : wof 3 W op o' = (W, op, o') := wof_lt (by omega)
  rw [w3] at r2
  have w2 : wof 2 W2 op2 ow2 = (W, op, o') := by
    rw [wof_of (r := 3) (by omega) r2]
    exact wof_lt ht
  exact hl f' l1 d op p' op2 W W2 o' ow2 bb' ev' cp' R S4 Q hd h4 l3 ht hi r3 r1 w2 (bad.of m4) (fun f2 p2 o2 bb2 ev2 cp2 W3 op3 ow3 S6 q1 q2 q3 q4 q5 q6 q7 m6 h6' => ok f2 p2 o2 bb2 ev2 cp2 W3 op3 ow3 S6 (by omega) (by omega) q3 q4 q5 q6 q7 (m4.tr m6) h6')
theorem l_AL {b : Nat → Nat} {e F0 f : Nat} (hu : ∀ f', f' < f → dX b e F0 f') (hl : ∀ f', f' < f → dAL b e F0 f') : dAL b e F0 f := fun d op p op' W W' o ow bb ev cp R S Q hd h hf ht hi hv hna hR hw bad ok => by
  obtain ⟨hc, hp, he, h6⟩ := h.b
  obtain ⟨s1, s2⟩ := tkS_le (b := b) hp
  obtain ⟨y1, y2, y3, y4, y5⟩ := tk_S (b := b) hp
  have y0 := tkS_tkS (b := b) hp
  have hd5 : 50 ≤ d := by omega
  have vlt := tkW_lt (b := b) (e := e) (p := p)
  obtain ⟨v0, v1, v2, v3, v4, v5, v6, z1, z2, z3, z4, z5, z6, z7⟩ := sVne
  have ne : nI (tkW b e p) = nI (sV 73) ↔ tkW b e p = sV 73 := nI_eq (by omega) (sV_l rfl)
  have hR0 := hR
  obtain ⟨g, rfl⟩ : ∃ g, f = g + 1 := ⟨f - 1, by omega⟩
  rw [om_f] at hR
  refine e_M_anyOf_2 hd5 h.1 (r_fine h (e_M_anyOf_4 hd5 h.1 ⟨fun z => absurd z (by decide), fun _ => r_word h (fun S1 m1 h1 => e_M_anyOf_7 hd5 h1.1 (w_M_of rfl h1.1 h1.2.1 (e_M_anyOf_9 hd5 h1.1 ⟨fun z => ?_, fun z => ?_⟩)))⟩))
  · refine ok (g + 1) (tkS b e p) o bb ev cp W' op' ow S1 (Nat.le_refl _) s1 (by omega) (by rw [om_S hp]; exact hR0) hw (by rw [y5]; exact hv) ?_ m1 h1
    rw [y4]
    unfold sw
    rw [if_neg (fun y => z (ne.mpr y)), if_neg hna]
  · have cw := ne.mp (Classical.not_not.mp z)
    obtain ⟨lt, gt, ge⟩ := wLt hp z7 cw
    have s13 : sw (tkW b e p) = 12 := by
      unfold sw
      rw [cw, if_pos rfl]
    have iw : inn W' ≠ 16 := by
      rw [inn_of (by omega) hw]
      exact hi
    rw [if_neg (fun y => y.2 (hv y.1).2), if_neg iw, if_neg (fun y => by have := (hv y.1).1; rw [this] at y; exact absurd y.2 (by decide)), if_pos (by omega), s13, show ran 12 = 1 from rfl, hw] at hR
    refine r_pass h1 hp (tkW_1 z7 cw) (fun S2 m2 h2 => e_M_anyOf_12 hd5 h2.1 ?_)
    have M2 := m1.tr m2
    refine hu g (by omega) (d - 1) op (tkE b e p) (12 :: W) o ev R S2 _ (by omega) (h2.up (by show F0 + o.length + (W.length + 1) ≤ _; omega)) (by omega) (by show (1 : Nat) < 2; omega) hi hR (fun k t r1 r2 r3 S4 m4 s4 d4 => e_M_anyOf_14 hd5 s4 (q_emit s4 d4 (by omega) (e_M_anyOf_18 hd5 s4 (q_any2 hd5 s4 d4 (by omega) (bad k t r1 r2 r3 S4 (M2.tr m4) s4 d4))))) (fun f' p' o' bb' ev' cp' W2 op2 ow2 S4 l1 l2 l3 r1 r2 r3 r4 m4 h4 => e_M_anyOf_14 hd5 h4.1 (r_emit (c := 12) rfl h4 (fun S5 m5 h5 => e_M_anyOf_18 hd5 h5.1 ?_)))
    have w2 : wof 1 W2 op2 ow2 = (W, op, o' ++ [(12, 0)]) := by
      rw [wof_of (r := 2) (by omega) r2, wof_s (by show 1 ≤ 1; omega), if_neg (by omega)]
      exact wof_lt ht
    exact hl f' (by omega) d op p' op2 W W2 _ ow2 bb' ev' cp' R S5 Q hd h5 l3 ht hi r3 r4 r1 w2 (bad.of ((M2.tr m4).tr m5)) (fun f2 p2 o2 bb2 ev2 cp2 W3 op3 ow3 S6 q1 q2 q3 q4 q5 q6 q7 m6 h6' => ok f2 p2 o2 bb2 ev2 cp2 W3 op3 ow3 S6 (by omega) (by omega) q3 q4 q5 q6 q7 (((M2.tr m4).tr m5).tr m6) h6')
theorem l_A {b : Nat → Nat} {e F0 f : Nat} (hu : dX b e F0 f) (hl : ∀ f', f' < f → dAL b e F0 f') : dA b e F0 f := fun d op p W o ev R S Q hd h hf ht hi hR bad ok => by
  obtain ⟨hc, hp, he, h6⟩ := h.b
  have hd5 : 50 ≤ d := by omega
  refine e_M_anyOf hd5 h.1 (hu (d - 1) op p W o ev R S _ (by omega) h hf (by omega) hi hR (fun k t r1 r2 r3 S4 m4 s4 d4 => q_any2 hd5 s4 d4 (by omega) (bad k t r1 r2 r3 S4 m4 s4 d4)) (fun f' p' o' bb' ev' cp' W2 op2 ow2 S4 l1 l2 l3 r1 r2 r3 r4 m4 h4 => ?_))
  have w2 : wof 1 W2 op2 ow2 = (W, op, o') := by
    rw [wof_of (r := 2) (by omega) r2]
    exact wof_lt ht
  exact hl f' l1 d op p' op2 W W2 o' ow2 bb' ev' cp' R S4 Q hd h4 l3 ht hi r3 r4 r1 w2 (bad.of m4) (fun f2 p2 o2 bb2 ev2 cp2 W3 op3 ow3 S6 q1 q2 q3 q4 q5 q6 q7 m6 h6' => ok f2 p2 o2 bb2 ev2 cp2 W3 op3 ow3 S6 (by omega) (by omega) q3 q4 q5 q6 q7 (m4.tr m6) h6')
/-- a B -/
theorem l_O {b : Nat → Nat} {e F0 f : Nat} (ha : ∀ f', f' < f → dA b e F0 f') (ho : ∀ f', f' < f → dO b e F0 f') (hs : ∀ f', f' ≤ f → dS b e F0 f') : dO b e F0 f := fun d op p W o ev R S Q hd h hf ht hi hR bad ok => by
  obtain ⟨hc, hp, he, h6⟩ := h.b
  obtain ⟨s1, s2⟩ := tkS_le (b := b) hp
  obtain ⟨y1, y2, y3, y4, y5⟩ := tk_S (b := b) hp
  have y0 := tkS_tkS (b := b) hp
  have hd5 : 50 ≤ d := by omega
  have hrl := hr_lt (p := p) h.2.2.1
  have vlt := tkW_lt (b := b) (e := e) (p := p)
  obtain ⟨v0, v1, v2, v3, v4, v5, v6, z1, z2, z3, z4, z5, z6, z7⟩ := sVne
  have ne : nI (tkW b e p) = nI (sV 69) ↔ tkW b e p = sV 69 := nI_eq (by omega) (sV_l rfl)
  have hR0 := hR
  obtain ⟨g, rfl⟩ : ∃ g, f = g + 1 := ⟨f - 1, by omega⟩
  rw [om_t] at hR
  refine e_M_oneOf hd5 h.1 (r_fine h (e_M_oneOf_2 hd5 h.1 ⟨fun _ => r_here h (fun S1 m1 h1 => e_M_oneOf_6 hd5 h1.1 ⟨fun z => r_word h1 (fun S2 m2 h2 => e_M_oneOf_25 hd5 h2.1 (w_M_of rfl h2.1 h2.2.1 (e_M_oneOf_27 hd5 h2.1 ⟨fun z2 => ?_, fun z2 => ?_⟩))), fun z => ?_⟩), fun z => absurd (by decide) z⟩))
  · -- E R E
    rw [y4] at z2
    rw [y0] at h2
    have M2 := m1.tr m2
    have n91 : hr b e p ≠ 91 := fun y => z (by rw [y])
    have n69 : tkW b e p ≠ sV 69 := fun y => z2 (ne.mpr y)
    refine hs (g + 1) (Nat.le_refl _) (d - 1) op (tkS b e p) W o true ev false R S2 _ (by omega) h2 (by omega) (by omega) (fun _ => ⟨by rw [y5]; exact n91, by rw [y4]; exact n69⟩) (by rw [om_S hp]; exact hR0) (fun k t r1 r2 r3 S4 m4 s4 d4 => e_M_oneOf_46 hd5 s4 (w_M_fine0 s4 d4 (by omega) (e_M_oneOf_48 hd5 s4 ⟨fun y => absurd rfl y, fun _ => bad k t r1 r2 r3 S4 (M2.tr m4) s4 d4⟩))) (fun f' p' o' bb' W2 op2 ow2 S4 l1 l2 l3 r1 r2 r3 m4 h4 => ?_)
    obtain ⟨hc4, hp4, -, -⟩ := h4.b
    obtain ⟨t1, t2⟩ := tkS_le (b := b) hp4
    obtain ⟨x1, x2, x3, x4, x5⟩ := tk_S (b := b) hp4
    have x0 := tkS_tkS (b := b) hp4
    have hrl4 := hr_lt (p := p') h4.2.2.1
    obtain ⟨f', rfl⟩ : ∃ g, f' = g + 1 := ⟨f' - 1, by omega⟩
    have iw : inn W2 ≠ 16 := by
      rw [inn_of (by omega) r2]
      exact hi
    have w4 : wof 4 W2 op2 ow2 = (W, op, o') := by
      rw [wof_of (r := 5) (by omega) r2]
      exact wof_lt ht
    rw [om_f, if_neg (fun y => y.2 r3), if_neg iw, if_pos ⟨rfl, rfl⟩, w4] at r1
    refine e_M_oneOf_46 hd5 h4.1 (r_fine h4 (e_M_oneOf_48 hd5 h4.1 ⟨fun _ => r_here h4 (fun S5 m5 h5 => ?_), fun y => absurd (by decide) y⟩))
    have M5 := (M2.tr m4).tr m5
    have go : ∀ (c : Nat), hr b e p' = c → sc c ≠ 0 → cM (sc c) = sc c → (Nat.beq (kOf c) 3 && Nat.blt 0 c) = true → (∀ (S' : ZSt), zSh S' → zcl d m_M_oneOf m_M_emit 168 89 [some (.ref 130), some (.int (nI c))] [] [.ref 130, .int (nI (sc c)), .int (nI 0)] S' Q → zW d m_M_oneOf 76 [some (.ref 130), some (.int (nI c))] [] S' Q) → zcl d m_M_oneOf m_M_sum 139 75 [some (.ref 130), some (.int (nI c))] [] [.ref 130] (zsI S5 130 7 (zI S5 130 7 + nI 1)) Q := fun c hc' c0 cc c3 K => by
      obtain ⟨eE, lt⟩ := ktE hp4 hc' c3
      rw [hc', if_pos c0] at r1
      have r4 : ran (sc c) = 4 := by
        rcases sc_r c0 with y | y | y <;> rw [y.2] <;> rfl
      have n14 : sc c ≠ 14 := by
        rcases sc_r c0 with y | y | y <;> rw [y.2] <;> omega
      obtain ⟨h6', m6⟩ := h5.nx (n' := (sc c :: W).length) hp4 eE (Nat.le_refl _)
      have M6 := M5.tr m6
      refine hs f' (by omega) (d - 1) op (tkE b e p') (sc c :: W) o' false true true R _ _ (by omega) h6' (by omega) (by show ran (sc c) < 5; omega) (fun y => by cases y) r1 (fun k t r1 r2 r3 S7 m7 s7 d7 => K S7 s7 (q_emit s7 d7 (by omega) (e_M_oneOf_90 hd5 s7 (bad k t r1 r2 r3 S7 (M6.tr m7) s7 d7)))) (fun f2 p2 o2 bb2 W3 op3 ow3 S7 l4 l5 l6 r5 r6 r7 m7 h7 => K S7 h7.1 (r_emit (c := sc c) cc.symm h7 (fun S8 m8 h8 => e_M_oneOf_90 hd5 h8.1 ?_)))
      refine ok f2 p2 _ bb2 true true W3 op3 ow3 S8 (by omega) (by omega) l6 r5 ?_ (fun _ => ⟨rfl, r7⟩) ((M6.tr m7).tr m8) h8
      rw [wof_of (r := 5) (by omega) r6, wof_s (by omega), if_neg n14]
    refine e_M_oneOf_52 hd5 h5.1 ⟨fun y => ?_, fun y1 => ⟨fun y => ?_, fun y2 => ⟨fun y => ?_, fun y3 => ?_⟩⟩⟩
    · have c : hr b e p' = 60 := nEq (by omega) (by omega) y
      rw [c]
      exact go 60 c (by decide) rfl rfl (fun S' s' k => e_M_oneOf_76 hd5 s' ⟨fun y => absurd rfl y, fun _ => k⟩)
    · have c : hr b e p' = 62 := nEq (by omega) (by omega) y
      rw [c]
      exact go 62 c (by decide) rfl rfl (fun S' s' k => e_M_oneOf_76 hd5 s' ⟨fun _ => ⟨fun y => absurd rfl y, fun _ => k⟩, fun y => absurd (by decide) y⟩)
    · have c : hr b e p' = 61 := nEq (by omega) (by omega) y
      rw [c]
      exact go 61 c (by decide) rfl rfl (fun S' s' k => e_M_oneOf_76 hd5 s' ⟨fun _ => ⟨fun _ => k, fun y => absurd (by decide) y⟩, fun y => absurd (by decide) y⟩)
    · have c0 : sc (hr b e p') = 0 := by
        unfold sc
        rw [if_neg (fun y => y1 (by rw [y])), if_neg (fun y => y2 (by rw [y])), if_neg (fun y => y3 (by rw [y]))]
      rw [c0, if_neg (fun y => y rfl)] at r1
      exact r_wrong h5 (fun S6 m6 s6 d6 => e_M_oneOf_67 hd5 s6 (bad 1 _ r1.symm (by omega) t2 S6 (M5.tr m6) s6 d6))
  · -- not
    rw [y4] at z2
    rw [y0] at h2
    have M2 := m1.tr m2
    have n91 : hr b e p ≠ 91 := fun y => z (by rw [y])
    have cw := ne.mp (Classical.not_not.mp z2)
    obtain ⟨lt, gt, ge⟩ := wLt hp z5 cw
    have n40 : hr b e p ≠ 40 := fun y => by
      have k3 := ((hr_is (by rfl) (by omega)).mp y).1
      have k1 := tkW_1 z5 cw
      omega
    have e3 : tkS b e p + 3 = tkE b e p := by
      have k := (tkW_is (b := b) (g := sG 69) (e := e) (p := p) (fr := 0) (m := (sB 69).length) (fun j hj => ?_) (by decide +kernel)).mp cw
      · have := k.2.1
        have l3 : (sB 69).length = 3 := by decide +kernel
        omega
      · have hall : (List.range (sB 69).length).all (fun j => Nat.ble 97 (sG 69 (0 + j)) && Nat.ble (sG 69 (0 + j)) 122) = true := by decide +kernel
        obtain ⟨b1, b2⟩ := zand (List.all_eq_true.mp hall j (List.mem_range.mpr hj))
        exact ⟨Nat.le_of_ble_eq_true b1, Nat.le_of_ble_eq_true b2⟩
    rw [if_neg n40, if_neg (fun y => n91 y.2), if_pos ⟨rfl, cw⟩] at hR
    refine r_opens h2 (by rw [y2]; exact e3) (by rw [y2]; exact gt) (fun _ => by rw [y2]; omega) (fun lt6 S3 m3 h3 => e_M_oneOf_31 hd5 h3.1 ?_) (fun le6 S3 m3 s3 d3 => ?_)
    · rw [y2] at h3
      rw [if_neg (by omega)] at hR
      have M3 := M2.tr m3
      refine ho g (by omega) (d - 1) (op + 1) (tkE b e p) (14 :: W) o ev R S3 _ (by omega) h3 (by omega) (by show (3 : Nat) < 4; omega) hi hR (fun k t r1 r2 r3 S4 m4 s4 d4 => e_M_oneOf_33 hd5 s4 (q_emit (zSh.o s4) d4.o (by omega) (e_M_oneOf_43 hd5 (zSh.o s4) (bad k t r1 r2 r3 _ ((M3.tr m4).tr zMt.o) (zSh.o s4) d4.o)))) (fun f' p' o' bb' ev' cp' W2 op2 ow2 S4 l1 l2 l3 r1 r2 r3 m4 h4 => e_M_oneOf_33 hd5 h4.1 ?_)
      have e10 : zI S4 130 10 - nI 1 = nI op := by
        rw [h4.2.2.2.2.2.2.1.1, pk_sub (by omega)]
        rfl
      refine r_emit (c := 14) (n := W.length) rfl (h4.op e10 h6 (Nat.le_refl _)) (fun S5 m5 h5 => e_M_oneOf_43 hd5 h5.1 (ok f' p' _ bb' ev' cp' W2 op2 ow2 S5 (by omega) (by omega) l3 r1 ?_ r3 (((M3.tr m4).tr zMt.o).tr m5) h5))
      rw [r2, wof_s (by show 3 ≤ 3; omega), if_pos rfl]
      rfl
    · rw [if_pos le6] at hR
      exact e_M_oneOf_31 hd5 s3 (q_one (d := d - 1) (by omega) s3 d3 (by omega) (e_M_oneOf_33 hd5 s3 (q_emit (zSh.o s3) d3.o (by omega) (e_M_oneOf_43 hd5 (zSh.o s3) (bad 3 _ hR.symm (by omega) s2 _ ((M2.tr m3).tr zMt.o) (zSh.o s3) d3.o)))))
  · -- [
    have c91 : hr b e p = 91 := nEq (by omega) (by omega) (Classical.not_not.mp z)
    obtain ⟨eE, lt⟩ := ktE hp c91 rfl
    rw [if_neg (by omega), if_pos ⟨rfl, c91⟩] at hR
    refine r_opens h1 (by rw [y2, eE]) (by rw [y2]; omega) (fun _ => by rw [y2]; omega) (fun lt6 S3 m3 h3 => e_M_oneOf_11 hd5 h3.1 ?_) (fun le6 S3 m3 s3 d3 => ?_)
    · rw [y2] at h3
      rw [if_neg (by omega)] at hR
      have M3 := m1.tr m3
      refine ha g (by omega) (d - 1) (op + 1) (tkE b e p) (17 :: W) o ev R S3 _ (by omega) h3 (by omega) (by show (0 : Nat) < 1; omega) (by show (17 : Nat) ≠ 16; omega) hR (fun k t r1 r2 r3 S4 m4 s4 d4 => e_M_oneOf_13 hd5 s4 (w_M_sign0 s4 d4 (by omega) (e_M_oneOf_16 hd5 s4 (bad k t r1 r2 r3 _ ((M3.tr m4).tr zMt.o) (zSh.o s4) d4.o)))) (fun f' p' o' bb' ev' cp' W2 op2 ow2 S4 l1 l2 l3 r1 r2 r3 r4 m4 h4 => e_M_oneOf_13 hd5 h4.1 ?_)
      obtain ⟨hc4, hp4, -, -⟩ := h4.b
      obtain ⟨f', rfl⟩ : ∃ g, f' = g + 1 := ⟨f' - 1, by omega⟩
      have iw : inn W2 = 17 := inn_of (by omega) r2
      rw [om_f, if_neg (fun y => y.2 (r3 y.1).2), if_neg (by omega), if_neg (fun y => by have := (r3 y.1).1; rw [this] at y; exact absurd y.2 (by decide)), if_neg (fun y => y r4), if_pos iw, r2] at r1
      refine r_sign rfl h4 (fun c93 S5 m5 h5 => e_M_oneOf_16 hd5 h5.1 ?_) (fun c93 S5 m5 s5 d5 => e_M_oneOf_16 hd5 s5 ?_)
      · rw [if_pos c93] at r1
        have e10 : zI S5 130 10 - nI 1 = nI op := by
          rw [h5.2.2.2.2.2.2.1.1, pk_sub (by omega)]
          rfl
        obtain ⟨eE4, lt4⟩ := ktE hp4 c93 rfl
        have := (tkS_le (b := b) hp4).1
        exact ok f' (tkE b e p') o' bb' false cp' W op o' _ (by omega) (by omega) (by omega) r1 rfl (fun y => by cases y) (((M3.tr m4).tr m5).tr zMt.o) (h5.op e10 h6 (by show W.length ≤ W.length + 1; omega))
      · rw [if_neg c93] at r1
        exact bad 1 _ r1.symm (by omega) (tkS_le hp4).2 _ (((M3.tr m4).tr m5).tr zMt.o) (zSh.o s5) d5.o
    · rw [if_pos le6] at hR
      exact e_M_oneOf_11 hd5 s3 (q_any (d := d - 1) (by omega) s3 d3 (by omega) (e_M_oneOf_13 hd5 s3 (w_M_sign0 s3 d3 (by omega) (e_M_oneOf_16 hd5 s3 (bad 3 _ hR.symm (by omega) s2 _ ((m1.tr m3).tr zMt.o) (zSh.o s3) d3.o)))))
/-- all together, by how much is left -/
theorem l_all {b : Nat → Nat} {e F0 : Nat} : ∀ f, (dS b e F0 f ∧ dPL b e F0 f ∧ dSL b e F0 f) ∧ (dP b e F0 f ∧ dU b e F0 f) ∧ (dO b e F0 f ∧ dX b e F0 f ∧ dA b e F0 f) ∧ dXL b e F0 f ∧ dAL b e F0 f := by
  intro f
  induction f using Nat.strongRecOn with
  | ind f ih =>
    have hU : dU b e F0 f := l_unit (fun f' hf => (ih f' hf).1.1)
    have hPL : dPL b e F0 f := l_PL (fun f' hf => (ih f' hf).2.1.2) (fun f' hf => (ih f' hf).1.2.1)
    have hP : dP b e F0 f := l_P hU (fun f' hf => (ih f' hf).1.2.1)
    have hSL : dSL b e F0 f := l_SL (fun f' hf => (ih f' hf).2.1.1) (fun f' hf => (ih f' hf).1.2.2)
    have hS : dS b e F0 f := l_S hP (fun f' hf => (ih f' hf).1.2.2)
    have hO : dO b e F0 f := l_O (fun f' hf => (ih f' hf).2.2.1.2.2) (fun f' hf => (ih f' hf).2.2.1.1) (fun f' hf => by
      rcases Nat.lt_or_ge f' f with h | h
      · exact (ih f' h).1.1
      · have : f' = f := by omega
        rw [this]
        exact hS)
    have hXL : dXL b e F0 f := l_XL (fun f' hf => (ih f' hf).2.2.1.1) (fun f' hf => (ih f' hf).2.2.2.1)
    have hX : dX b e F0 f := l_X hO (fun f' hf => (ih f' hf).2.2.2.1)
    have hAL : dAL b e F0 f := l_AL (fun f' hf => (ih f' hf).2.2.1.2.1) (fun f' hf => (ih f' hf).2.2.2.2)
    exact ⟨⟨hS, hPL, hSL⟩, ⟨hP, hU⟩, ⟨hO, hX, l_A hX (fun f' hf => (ih f' hf).2.2.2.2)⟩, hXL, hAL⟩
