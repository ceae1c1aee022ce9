/-! A TASK's text, the reference's side: products and sums -/
theorem ktE {b : Nat → Nat} {e p c : Nat} (hp : p ≤ e) (h : hr b e p = c) (h3 : (Nat.beq (kOf c) 3 && Nat.blt 0 c) = true) : tkE b e p = tkS b e p + 1 ∧ tkS b e p < e := by
  obtain ⟨c2, c3⟩ := zand h3
  have d2 := Nat.eq_of_beq_eq_true c2
  have d3 : 0 < c := Nat.le_of_ble_eq_true c3
  have k3 := ((hr_is d2 (by omega)).mp h).1
  have kk : ¬ tkS b e p = e := fun z => by
    have := (tkK_0 hp).mpr z
    omega
  have := (tkS_le (b := b) hp).2
  exact ⟨tkE_3 k3, by omega⟩
/-- a byte is passed -/
theorem jRd.nx {S : ZSt} {b : Nat → Nat} {e p op F0 n n' : Nat} {o : List (Nat × Nat)} (h : jRd S b e (tkS b e p) op F0 o n) (hp : p ≤ e) (hE : tkE b e p = tkS b e p + 1) (hn : n' ≤ n + 1) : jRd (zsI S 130 7 (zI S 130 7 + nI 1)) b e (tkE b e p) op F0 o n' ∧ zMt F0 S (zsI S 130 7 (zI S 130 7 + nI 1)) := by
  have hb := h.b
  rw [h.2.2.2.2.1, nI_add, ← hE]
  have J : zK7 S (zsI S 130 7 (nI (tkE b e p))) := zK7.I
  exact ⟨(h.K J zI_s ⟨by omega, tkE_le hp⟩).up (by omega), J.B.t⟩
def dPL (b : Nat → Nat) (e F0 f : Nat) : Prop := ∀ (d op p op' : Nat) (W W' : List Nat) (o ow : List (Nat × Nat)) (bb cp : Bool) (R : ZRm) (u1 : Option Value) (S : ZSt) (Q : ZOut → ZSt → Prop), 61 + 3 * (7 - op) ≤ d → jRd S b e p op F0 o W.length → e < f + p → trw W < 6 → om b e f false bb true cp W' op' p ow = R → wof 6 W' op' ow = (W, op, o) → pBad F0 e S R Q → (∀ f' p' o' bb' W2 op2 ow2 S', f' ≤ f → p ≤ p' → e < f' + p' → om b e f' false bb' true cp W2 op2 p' ow2 = R → wof 6 W2 op2 ow2 = (W, op, o') → (hr b e p' ≠ 42 ∧ hr b e p' ≠ 47) → zMt F0 S S' → jRd S' b e p' op F0 o' W.length → Q (.inl none) S') → zW d m_M_product 2 [some (.ref 130), u1] [] S Q
def dP (b : Nat → Nat) (e F0 f : Nat) : Prop := ∀ (d op p : Nat) (W : List Nat) (o : List (Nat × Nat)) (bb ev cp : Bool) (R : ZRm) (S : ZSt) (Q : ZOut → ZSt → Prop), 61 + 3 * (7 - op) ≤ d → jRd S b e p op F0 o W.length → e < f + p → trw W < 6 → (bb = true → hr b e p ≠ 91 ∧ tkW b e p ≠ sV 69) → om b e f true bb ev cp W op p o = R → pBad F0 e S R Q → (∀ f' p' o' bb' W2 op2 ow2 S', f' < f → p < p' → e < f' + p' → om b e f' false bb' true cp W2 op2 p' ow2 = R → wof 6 W2 op2 ow2 = (W, op, o') → (hr b e p' ≠ 42 ∧ hr b e p' ≠ 47) → zMt F0 S S' → jRd S' b e p' op F0 o' W.length → Q (.inl none) S') → zW d m_M_product 0 [some (.ref 130), none] [] S Q
theorem l_PL {b : Nat → Nat} {e F0 f : Nat} (hu : ∀ f', f' < f → dU b e F0 f') (hl : ∀ f', f' < f → dPL b e F0 f') : dPL b e F0 f := fun d op p op' W W' o ow bb cp R u1 S Q hd h hf ht hR hw bad ok => by
  obtain ⟨hc, hp, he, h6⟩ := h.b
  obtain ⟨s1, s2⟩ := tkS_le (b := b) hp
  obtain ⟨y1, y2, y3, y4, y5⟩ := tk_S (b := b) hp
  have y0 := tkS_tkS (b := b) hp
  have hd5 : 50 ≤ d := by omega
  have hrl := hr_lt (p := p) h.2.2.1
  have hR0 := hR
  obtain ⟨g, rfl⟩ : ∃ g, f = g + 1 := ⟨f - 1, by omega⟩
  rw [om_f] at hR
  -- a sign and what it joins
  have go : ∀ (S1 : ZSt) (c k : Nat), zMt F0 S S1 → jRd S1 b e (tkS b e p) op F0 o W.length → hr b e p = c → (c = 42 ∧ sj c = 7 ∧ ran (sj c) = 6) ∨ (c = 47 ∧ sj c = 8 ∧ ran (sj c) = 6) → zcl d m_M_product m_M_here 30 14 [some (.ref 130), u1] [] [.ref 130] S1 Q := fun S1 c k m1 h1 hc' cc => by
    have c3 : (Nat.beq (kOf c) 3 && Nat.blt 0 c) = true := by rcases cc with z | z <;> rw [z.1] <;> rfl
    have sj7 : sj c = 7 ∨ sj c = 8 := by rcases cc with z | z; exact Or.inl z.2.1; exact Or.inr z.2.1
    have r6 : ran (sj c) = 6 := by rcases cc with z | z <;> exact z.2.2
    obtain ⟨eE, lt⟩ := ktE hp hc' c3
    rw [hc', if_pos ⟨rfl, by omega⟩, r6, hw] at hR
    refine r_here h1 (fun S2 m2 h2 => e_M_product_15 hd5 h2.1 ?_)
    rw [y0] at h2
    rw [y5, hc']
    obtain ⟨h3, m3⟩ := h2.nx (n' := (sj c :: W).length) hp eE (Nat.le_refl _)
    have M3 := (m1.tr m2).tr m3
    refine hu g (by omega) (d - 1) op (tkE b e p) (sj c :: W) o false true cp R _ _ (by omega) h3 (by omega) (fun z => by cases z) hR (fun k t r1 r2 r3 S4 m4 s4 d4 => ?_) (fun f' p' o' bb' S4 l1 l2 l3 r1 m4 h4 => ?_)
    · refine e_M_product_24 hd5 s4 ⟨fun _ => q_emit s4 d4 (by omega) (e_M_product_33 hd5 s4 (q_prod2 hd5 s4 d4 (by omega) (bad k t r1 r2 r3 S4 (M3.tr m4) s4 d4))), fun _ => q_emit s4 d4 (by omega) (e_M_product_33 hd5 s4 (q_prod2 hd5 s4 d4 (by omega) (bad k t r1 r2 r3 S4 (M3.tr m4) s4 d4)))⟩
    · have wof6 : wof 6 (sj c :: W) op o' = (W, op, o' ++ [(sj c, 0)]) := by
        rw [wof_s (by omega), if_neg (by omega)]
        exact wof_lt ht
      have K : ∀ k, k = cM (sj c) → zcl d m_M_product m_M_emit 63 32 [some (.ref 130), some (.int (nI c))] [] [.ref 130, .int (nI k), .int (nI 0)] S4 Q := fun k hk => r_emit (c := sj c) hk h4 (fun S5 m5 h5 => e_M_product_33 hd5 h5.1 (hl f' (by omega) d op p' op W (sj c :: W) _ o' bb' cp R _ S5 Q hd h5 (by omega) ht r1 wof6 (bad.of ((M3.tr m4).tr m5)) (fun f2 p2 o2 bb2 W2 op2 ow2 S6 q1 q2 q3 q4 q5 q6 m6 h6' => ok f2 p2 o2 bb2 W2 op2 ow2 S6 (by omega) (by omega) q3 q4 q5 q6 (((M3.tr m4).tr m5).tr m6) h6')))
      refine e_M_product_24 hd5 h4.1 ⟨fun z => K 8 ?_, fun z => K 7 ?_⟩
      · rcases cc with y | y
        · exact absurd (by rw [y.1]) z
        · rw [y.2.1]
          rfl
      · rcases cc with y | y
        · rw [y.2.1]
          rfl
        · exact absurd (by rw [y.1]; decide) z
  refine e_M_product_2 hd5 h.1 (r_fine h (e_M_product_4 hd5 h.1 ⟨fun z => absurd z (by decide), fun _ => r_here h (fun S1 m1 h1 => e_M_product_7 hd5 h1.1 ⟨fun z => ?_, fun z => r_here h1 (fun S2 m2 h2 => e_M_product_11 hd5 h2.1 ⟨fun z2 => ?_, fun z2 => ?_⟩)⟩)⟩))
  · have c42 : hr b e p = 42 := nEq (by omega) (by omega) z
    exact go S1 42 0 m1 h1 c42 (Or.inl ⟨rfl, rfl, rfl⟩)
  · rw [y5] at z2
    rw [y0] at h2
    have n42 : hr b e p ≠ 42 := fun y => z (by rw [y])
    have n47 : hr b e p ≠ 47 := fun y => z2 (by rw [y])
    refine ok (g + 1) (tkS b e p) o bb W' op' ow S2 (Nat.le_refl _) s1 (by omega) (by rw [om_S hp]; exact hR0) hw ?_ (m1.tr m2) h2
    rw [y5]
    exact ⟨n42, n47⟩
  · rw [y5] at z2
    rw [y0] at h2
    have c47 : hr b e p = 47 := nEq (by omega) (by omega) (Classical.not_not.mp z2)
    exact go S2 47 0 (m1.tr m2) h2 c47 (Or.inr ⟨rfl, rfl, rfl⟩)
theorem l_P {b : Nat → Nat} {e F0 f : Nat} (hu : dU b e F0 f) (hl : ∀ f', f' < f → dPL b e F0 f') : dP b e F0 f := fun d op p W o bb ev cp R S Q hd h hf ht hbb hR bad ok => by
  obtain ⟨hc, hp, he, h6⟩ := h.b
  have hd5 : 50 ≤ d := by omega
  refine e_M_product hd5 h.1 (hu (d - 1) op p W o bb ev cp R S _ (by omega) h hf hbb hR (fun k t r1 r2 r3 S4 m4 s4 d4 => q_prod2 hd5 s4 d4 (by omega) (bad k t r1 r2 r3 S4 m4 s4 d4)) (fun f' p' o' bb' S4 l1 l2 l3 r1 m4 h4 => ?_))
  exact hl f' l1 d op p' op W W o' o' bb' cp R _ S4 Q hd h4 l3 ht r1 (wof_lt ht) (bad.of m4) (fun f2 p2 o2 bb2 W2 op2 ow2 S6 q1 q2 q3 q4 q5 q6 m6 h6' => ok f2 p2 o2 bb2 W2 op2 ow2 S6 (by omega) (by omega) q3 q4 q5 q6 (m4.tr m6) h6')
def dSL (b : Nat → Nat) (e F0 f : Nat) : Prop := ∀ (d op p op' : Nat) (W W' : List Nat) (o ow : List (Nat × Nat)) (bb cp : Bool) (R : ZRm) (u1 : Option Value) (S : ZSt) (Q : ZOut → ZSt → Prop), 62 + 3 * (7 - op) ≤ d → jRd S b e p op F0 o W.length → e < f + p → trw W < 5 → (hr b e p ≠ 42 ∧ hr b e p ≠ 47) → om b e f false bb true cp W' op' p ow = R → wof 5 W' op' ow = (W, op, o) → pBad F0 e S R Q → (∀ f' p' o' bb' W2 op2 ow2 S', f' ≤ f → p ≤ p' → e < f' + p' → om b e f' false bb' true cp W2 op2 p' ow2 = R → wof 5 W2 op2 ow2 = (W, op, o') → sj (hr b e p') = 0 → zMt F0 S S' → jRd S' b e p' op F0 o' W.length → Q (.inl none) S') → zW d m_M_sum 2 [some (.ref 130), u1] [] S Q
theorem l_SL {b : Nat → Nat} {e F0 f : Nat} (hu : ∀ f', f' < f → dP b e F0 f') (hl : ∀ f', f' < f → dSL b e F0 f') : dSL b e F0 f := fun d op p op' W W' o ow bb cp R u1 S Q hd h hf ht hn hR hw bad ok => by
  obtain ⟨hc, hp, he, h6⟩ := h.b
  obtain ⟨s1, s2⟩ := tkS_le (b := b) hp
  obtain ⟨y1, y2, y3, y4, y5⟩ := tk_S (b := b) hp
  have y0 := tkS_tkS (b := b) hp
  have hd5 : 50 ≤ d := by omega
  have hrl := hr_lt (p := p) h.2.2.1
  have hR0 := hR
  obtain ⟨g, rfl⟩ : ∃ g, f = g + 1 := ⟨f - 1, by omega⟩
  rw [om_f] at hR
  have go : ∀ (S1 : ZSt) (c k : Nat), zMt F0 S S1 → jRd S1 b e (tkS b e p) op F0 o W.length → hr b e p = c → (c = 43 ∧ sj c = 5 ∧ ran (sj c) = 5) ∨ (c = 45 ∧ sj c = 6 ∧ ran (sj c) = 5) → zcl d m_M_sum m_M_here 30 14 [some (.ref 130), u1] [] [.ref 130] S1 Q := fun S1 c k m1 h1 hc' cc => by
    have c3 : (Nat.beq (kOf c) 3 && Nat.blt 0 c) = true := by rcases cc with z | z <;> rw [z.1] <;> rfl
    have sj7 : sj c = 5 ∨ sj c = 6 := by rcases cc with z | z; exact Or.inl z.2.1; exact Or.inr z.2.1
    have r6 : ran (sj c) = 5 := by rcases cc with z | z <;> exact z.2.2
    obtain ⟨eE, lt⟩ := ktE hp hc' c3
    rw [hc', if_pos ⟨rfl, by omega⟩, r6, hw] at hR
    refine r_here h1 (fun S2 m2 h2 => e_M_sum_15 hd5 h2.1 ?_)
    rw [y0] at h2
    rw [y5, hc']
    obtain ⟨h3, m3⟩ := h2.nx (n' := (sj c :: W).length) hp eE (Nat.le_refl _)
    have M3 := (m1.tr m2).tr m3
    refine hu g (by omega) (d - 1) op (tkE b e p) (sj c :: W) o false true cp R _ _ (by omega) h3 (by omega) (by show ran (sj c) < 6; omega) (fun z => by cases z) hR (fun k t r1 r2 r3 S4 m4 s4 d4 => ?_) (fun f' p' o' bb' W2 op2 ow2 S4 l1 l2 l3 r1 r2 r3 m4 h4 => ?_)
    · refine e_M_sum_24 hd5 s4 ⟨fun _ => q_emit s4 d4 (by omega) (e_M_sum_33 hd5 s4 (q_sum2 hd5 s4 d4 (by omega) (bad k t r1 r2 r3 S4 (M3.tr m4) s4 d4))), fun _ => q_emit s4 d4 (by omega) (e_M_sum_33 hd5 s4 (q_sum2 hd5 s4 d4 (by omega) (bad k t r1 r2 r3 S4 (M3.tr m4) s4 d4)))⟩
    · have wof5 : wof 5 W2 op2 ow2 = (W, op, o' ++ [(sj c, 0)]) := by
        rw [wof_of (r := 6) (by omega) r2, wof_s (by omega), if_neg (by omega)]
        exact wof_lt ht
      have K : ∀ k, k = cM (sj c) → zcl d m_M_sum m_M_emit 62 32 [some (.ref 130), some (.int (nI c))] [] [.ref 130, .int (nI k), .int (nI 0)] S4 Q := fun k hk => r_emit (c := sj c) hk h4 (fun S5 m5 h5 => e_M_sum_33 hd5 h5.1 (hl f' (by omega) d op p' op2 W W2 _ ow2 bb' cp R _ S5 Q hd h5 (by omega) ht r3 r1 wof5 (bad.of ((M3.tr m4).tr m5)) (fun f2 p2 o2 bb2 W3 op3 ow3 S6 q1 q2 q3 q4 q5 q6 m6 h6' => ok f2 p2 o2 bb2 W3 op3 ow3 S6 (by omega) (by omega) q3 q4 q5 q6 (((M3.tr m4).tr m5).tr m6) h6')))
      refine e_M_sum_24 hd5 h4.1 ⟨fun z => K 6 ?_, fun z => K 5 ?_⟩
      · rcases cc with y | y
        · exact absurd (by rw [y.1]) z
        · rw [y.2.1]
          rfl
      · rcases cc with y | y
        · rw [y.2.1]
          rfl
        · exact absurd (by rw [y.1]; decide) z
  refine e_M_sum_2 hd5 h.1 (r_fine h (e_M_sum_4 hd5 h.1 ⟨fun z => absurd z (by decide), fun _ => r_here h (fun S1 m1 h1 => e_M_sum_7 hd5 h1.1 ⟨fun z => ?_, fun z => r_here h1 (fun S2 m2 h2 => e_M_sum_11 hd5 h2.1 ⟨fun z2 => ?_, fun z2 => ?_⟩)⟩)⟩))
  · have c42 : hr b e p = 43 := nEq (by omega) (by omega) z
    exact go S1 43 0 m1 h1 c42 (Or.inl ⟨rfl, rfl, rfl⟩)
  · rw [y5] at z2
    rw [y0] at h2
    have n42 : hr b e p ≠ 43 := fun y => z (by rw [y])
    have n47 : hr b e p ≠ 45 := fun y => z2 (by rw [y])
    refine ok (g + 1) (tkS b e p) o bb W' op' ow S2 (Nat.le_refl _) s1 (by omega) (by rw [om_S hp]; exact hR0) hw ?_ (m1.tr m2) h2
    rw [y5]
    unfold sj
    rw [if_neg n42, if_neg n47, if_neg hn.1, if_neg hn.2]
  · rw [y5] at z2
    rw [y0] at h2
    have c47 : hr b e p = 45 := nEq (by omega) (by omega) (Classical.not_not.mp z2)
    exact go S2 45 0 (m1.tr m2) h2 c47 (Or.inr ⟨rfl, rfl, rfl⟩)
theorem l_S {b : Nat → Nat} {e F0 f : Nat} (hu : dP b e F0 f) (hl : ∀ f', f' < f → dSL b e F0 f') : dS b e F0 f := fun d op p W o bb ev cp R S Q hd h hf ht hbb hR bad ok => by
  obtain ⟨hc, hp, he, h6⟩ := h.b
  have hd5 : 50 ≤ d := by omega
  refine e_M_sum hd5 h.1 (hu (d - 1) op p W o bb ev cp R S _ (by omega) h hf (by omega) hbb hR (fun k t r1 r2 r3 S4 m4 s4 d4 => q_sum2 hd5 s4 d4 (by omega) (bad k t r1 r2 r3 S4 m4 s4 d4)) (fun f' p' o' bb' W2 op2 ow2 S4 l1 l2 l3 r1 r2 r3 m4 h4 => ?_))
  exact hl f' l1 d op p' op2 W W2 o' ow2 bb' cp R _ S4 Q hd h4 l3 ht r3 r1 (by rw [wof_of (r := 6) (by omega) r2]; exact wof_lt ht) (bad.of m4) (fun f2 p2 o2 bb2 W3 op3 ow3 S6 q1 q2 q3 q4 q5 q6 m6 h6' => ok f2 p2 o2 bb2 W3 op3 ow3 S6 (by omega) (by omega) q3 q4 q5 q6 (m4.tr m6) h6')
