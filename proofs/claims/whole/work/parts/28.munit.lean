/-! A TASK's text, the reference's side: a value -/
abbrev ZRm : Type := (Nat × Nat) ⊕ (Nat × List (Nat × Nat))
def pBad (F0 e : Nat) (S : ZSt) (R : ZRm) (Q : ZOut → ZSt → Prop) : Prop := ∀ k t, R = .inl (k, t) → 1 ≤ k ∧ k ≤ 4 → t ≤ e → ∀ S', zMt F0 S S' → zSh S' → jBd S' k t → Q (.inl none) S'
theorem jRd.up {S : ZSt} {b : Nat → Nat} {e p op F0 n n' : Nat} {o : List (Nat × Nat)} (h : jRd S b e p op F0 o n) (hn : F0 + o.length + n' ≤ 2000 + p) : jRd S b e p op F0 o n' := by
  obtain ⟨h1, h2, h3, h4, h5, h6, h7, h8, -⟩ := h
  exact ⟨h1, h2, h3, h4, h5, h6, h7, h8, hn⟩
theorem jRd.b {S : ZSt} {b : Nat → Nat} {e p op F0 n : Nat} {o : List (Nat × Nat)} (h : jRd S b e p op F0 o n) : F0 + o.length + n ≤ 2000 + p ∧ p ≤ e ∧ e ≤ 400 ∧ op ≤ 6 := ⟨h.2.2.2.2.2.2.2.2, h.2.2.2.1, h.2.2.1.1, h.2.2.2.2.2.2.1.2⟩
def dU (b : Nat → Nat) (e F0 f : Nat) : Prop := ∀ (d op p : Nat) (W : List Nat) (o : List (Nat × Nat)) (bb ev cp : Bool) (R : ZRm) (S : ZSt) (Q : ZOut → ZSt → Prop), 60 + 3 * (7 - op) ≤ d → jRd S b e p op F0 o W.length → e < f + p → (bb = true → hr b e p ≠ 91 ∧ tkW b e p ≠ sV 69) → om b e f true bb ev cp W op p o = R → pBad F0 e S R Q → (∀ f' p' o' bb' S', f' < f → p < p' → e < f' + p' → om b e f' false bb' true cp W op p' o' = R → zMt F0 S S' → jRd S' b e p' op F0 o' W.length → Q (.inl none) S') → zW d m_M_unit 0 [some (.ref 130), none, none] [] S Q
def dS (b : Nat → Nat) (e F0 f : Nat) : Prop := ∀ (d op p : Nat) (W : List Nat) (o : List (Nat × Nat)) (bb ev cp : Bool) (R : ZRm) (S : ZSt) (Q : ZOut → ZSt → Prop), 62 + 3 * (7 - op) ≤ d → jRd S b e p op F0 o W.length → e < f + p → trw W < 5 → (bb = true → hr b e p ≠ 91 ∧ tkW b e p ≠ sV 69) → om b e f true bb ev cp W op p o = R → pBad F0 e S R Q → (∀ f' p' o' bb' W' op' ow S', f' < f → p < p' → e < f' + p' → om b e f' false bb' true cp W' op' p' ow = R → wof 5 W' op' ow = (W, op, o') → sj (hr b e p') = 0 → zMt F0 S S' → jRd S' b e p' op F0 o' W.length → Q (.inl none) S') → zW d m_M_sum 0 [some (.ref 130), none] [] S Q
theorem pBad.of {F0 e : Nat} {S S1 : ZSt} {R : ZRm} {Q : ZOut → ZSt → Prop} (h : pBad F0 e S R Q) (m : zMt F0 S S1) : pBad F0 e S1 R Q := fun k t h1 h2 h3 S' m' s' d' => h k t h1 h2 h3 S' (m.tr m') s' d'
theorem tkW_1 {b : Nat → Nat} {e p w : Nat} (hw : w ≠ 0) (h : tkW b e p = w) : tkK b e p = 1 := tkW_pos (by omega)
theorem l_unit {b : Nat → Nat} {e F0 f : Nat} (hs : ∀ f', f' < f → dS b e F0 f') : dU b e F0 f := fun d op p W o bb ev cp R S Q hd h hf hbb hR bad ok => by
  obtain ⟨hc, hp, he, h6⟩ := h.b
  obtain ⟨s1, s2⟩ := tkS_le (b := b) hp
  obtain ⟨y1, y2, y3, y4, y5⟩ := tk_S (b := b) hp
  have y0 := tkS_tkS (b := b) hp
  obtain ⟨g, rfl⟩ : ∃ g, f = g + 1 := ⟨f - 1, by omega⟩
  rw [om_t] at hR
  have hd5 : 50 ≤ d := by omega
  have vlt := tkW_lt (b := b) (e := e) (p := p)
  have hrl := hr_lt (p := p) h.2.2.1
  obtain ⟨v0, v1, v2, v3, v4, v5, v6, z1, z2', z3', z4', z5', z6', z7'⟩ := sVne
  have HK := hr_K (b := b) (e := e) (p := p) (k := 2) (Or.inr rfl)
  refine e_M_unit hd5 h.1 (r_fine h (e_M_unit_2 hd5 h.1 ⟨fun _ => r_here h (fun S1 m1 h1 => e_M_unit_6 hd5 h1.1 (w_M_isDigit (hr_lt h.2.2.1) h1.1 (e_M_unit_9 hd5 h1.1 ?_))), fun z => absurd (by decide) z⟩))
  by_cases c40 : hr b e p = 40
  · -- something opens
    have k3 : tkK b e p = 3 := ((hr_is (by rfl) (by omega)).mp c40).1
    have eE : tkE b e p = tkS b e p + 1 := tkE_3 k3
    rw [if_pos c40] at hR
    rw [c40]
    refine ⟨fun _ => ⟨fun z => absurd rfl z, fun _ => ?_⟩, fun z => absurd (by decide) z⟩
    refine r_opens h1 (by rw [y2, eE]) (by rw [y2]; omega) (fun _ => by rw [y2]; omega) (fun lt6 S2 m2 h2 => e_M_unit_24 hd5 h2.1 ?_) (fun le6 S2 m2 s2' d2 => ?_)
    · rw [y2] at h2
      rw [if_neg (by omega)] at hR
      refine hs g (by omega) (d - 1) (op + 1) (tkE b e p) (16 :: W) o false ev cp R S2 _ (by omega) h2 (by omega) (by show (0 : Nat) < 5; omega) (fun z => by cases z) hR ?_ ?_
      · intro k t r1 r2 r3 S3 m3 s3 d3
        exact e_M_unit_26 hd5 s3 (w_M_sign0 s3 d3 (by omega) (e_M_unit_29 hd5 s3 (bad k t r1 r2 r3 _ (((m1.tr m2).tr m3).tr zMt.o) (zSh.o s3) d3.o)))
      · intro f' p' o' bb' W' op' ow S3 l1 l2 l3 r1 r2 r3 m3 h3
        obtain ⟨hc3, hp3, -, -⟩ := h3.b
        obtain ⟨f', rfl⟩ : ∃ g, f' = g + 1 := ⟨f' - 1, by omega⟩
        have iw : inn W' = 16 := inn_of (by omega) r2
        have w1 : wof 1 W' op' ow = (16 :: W, op + 1, o') := by
          rw [wof_of (r := 5) (by omega) r2]
          exact wof_lt (by show (0 : Nat) < 1; omega)
        rw [om_f, if_neg (fun z => z.2 r3), if_pos iw, w1] at r1
        refine e_M_unit_26 hd5 h3.1 (r_sign rfl h3 (fun c41 S4 m4 h4 => e_M_unit_29 hd5 h4.1 ?_) (fun c41 S4 m4 s4 d4 => e_M_unit_29 hd5 s4 ?_))
        · rw [if_pos c41] at r1
          have e10 : zI S4 130 10 - nI 1 = nI op := by
            rw [h4.2.2.2.2.2.2.1.1, pk_sub (by omega)]
            rfl
          have lt : tkS b e p' < e := by
            have k3 := ((hr_is (by rfl) (by omega)).mp c41).1
            have kk : ¬ tkS b e p' = e := fun z => by
              have := (tkK_0 hp3).mpr z
              omega
            have := (tkS_le (b := b) hp3).2
            omega
          have gt := tkE_gt lt
          have := (tkS_le (b := b) hp3).1
          exact ok f' (tkE b e p') o' bb' _ (by omega) (by omega) (by omega) r1 ((((m1.tr m2).tr m3).tr m4).tr zMt.o) (h4.op e10 h6 (by show W.length ≤ W.length + 1; omega))
        · rw [if_neg c41] at r1
          exact bad 1 _ r1.symm (by omega) (tkS_le hp3).2 _ ((((m1.tr m2).tr m3).tr m4).tr zMt.o) (zSh.o s4) d4.o
    · rw [if_pos le6] at hR
      exact e_M_unit_24 hd5 s2' (q_sum (d := d - 1) (by omega) s2' d2 (by omega) (e_M_unit_26 hd5 s2' (w_M_sign0 s2' d2 (by omega) (e_M_unit_29 hd5 s2' (bad 3 _ hR.symm (by omega) s2 _ ((m1.tr m2).tr zMt.o) (zSh.o s2') d2.o)))))
  · rw [if_neg c40, if_neg (fun z => (hbb z.1).1 z.2), if_neg (fun z => (hbb z.1).2 z.2)] at hR
    -- what a value ends with
    have fin : ∀ (c v q : Nat) (S3 : ZSt), zMt F0 S S3 → jRd S3 b e q op F0 (o ++ [(c, v)]) W.length → tkS b e p < q → val b e p = .inr (c, v, q) → Q (.inl none) S3 := fun c v q S3 m3 h3 lq V => by
      rw [V] at hR
      exact ok g q _ bb S3 (by omega) (by omega) (by omega) hR m3 h3
    have flt : ∀ (k t : Nat) (S3 : ZSt), zMt F0 S S3 → zSh S3 → jBd S3 k t → 1 ≤ k ∧ k ≤ 4 → t ≤ e → val b e p = .inl (k, t) → Q (.inl none) S3 := fun k t S3 m3 s3 d3 hk ht V => by
      rw [V] at hR
      exact bad k t hR.symm hk ht S3 m3 s3 d3
    by_cases k2 : tkK b e p = 2
    · rw [if_pos (HK.mpr k2)]
      refine ⟨fun z => absurd z (by decide), fun _ => ?_⟩
      have lt : tkS b e p < e := by
        have kk : ¬ tkS b e p = e := fun z => by
          have := (tkK_0 hp).mpr z
          omega
        omega
      have gt := tkE_gt lt
      have ge := tkE_le (b := b) hp
      refine r_num rfl h1 (fun g1 g2 g3 S2 m2 h2 => e_M_unit_16 hd5 h2.1 ?_) (fun g1 S2 m2 s2' d2 => absurd (y1.trans k2) g1) (fun g1 g2 S2 m2 s2' d2 => e_M_unit_16 hd5 s2' (q_emit s2' d2 (by omega) (e_M_unit_17 hd5 s2' ?_)))
      · rw [y3] at g3 ⊢
        rw [y2] at h2
        refine r_emit (c := 0) rfl (h2.up (n' := W.length + 1) (by omega)) (fun S3 m3 h3 => e_M_unit_17 hd5 h3.1 (fin 0 _ _ S3 ((m1.tr m2).tr m3) h3 (by omega) ?_))
        unfold val
        rw [if_pos k2, if_pos g3]
      · rw [y0] at d2
        refine flt 2 _ S2 (m1.tr m2) s2' d2 (by omega) s2 ?_
        unfold val
        rw [if_pos k2, if_neg (fun z => g2 ⟨Nat.zero_le _, by rw [y3]; exact z⟩)]
    · rw [if_neg (fun z => k2 (HK.mp z))]
      refine ⟨fun _ => ⟨fun _ => r_word h1 (fun S2 m2 h2 => e_M_unit_38 hd5 h2.1 (w_M_of rfl h2.1 h2.2.1 (e_M_unit_42 hd5 h2.1 ?_))), fun z => absurd (nEq (by omega) (by omega) (Classical.not_not.mp z)) c40⟩, fun z => absurd rfl z⟩
      · rw [y4]
        rw [y0] at h2
        have m12 := m1.tr m2
        have V0 : val b e p = if vwd (tkW b e p) = 0 then .inl (1, tkS b e p) else if vwd (tkW b e p) = 4 then .inr (4, 0, tkE b e p) else if tkK b e (tkE b e p) = 2 then (if tkV b e (tkE b e p) ≤ vmq (vwd (tkW b e p)) then .inr (vwd (tkW b e p), tkV b e (tkE b e p), tkE b e (tkE b e p)) else .inl (2, tkS b e (tkE b e p))) else .inl (1, tkS b e (tkE b e p)) := by
          unfold val
          rw [if_neg k2]
        have ne : ∀ {r : Nat}, (List.range 25).any (fun k => Nat.beq r (25 + 2 * k)) = true → (nI (tkW b e p) = nI (sV r) ↔ tkW b e p = sV r) := fun hr' => nI_eq (by omega) (sV_l hr')
        -- behind the word
        have wd : tkK b e p = 1 → tkS b e p < tkE b e p := fun k1 => by
          have kk : ¬ tkS b e p = e := fun z => by
            have := (tkK_0 hp).mpr z
            omega
          exact tkE_gt (by omega)
        have ge := tkE_le (b := b) hp
        obtain ⟨t1, t2⟩ := tkS_le (b := b) ge
        have nm : ∀ (c hi pc ix : Nat) (L : ZLo), c = vwd (tkW b e p) → c ≠ 0 → c ≠ 4 → hi = vmq c → cM c = c → tkK b e p = 1 → (∀ (v : Int32) (S' : ZSt), zSh S' → zcl d m_M_unit m_M_emit (pc + 3) (ix + 1) L [] [.ref 130, .int (nI c), .int v] S' Q → zW d m_M_unit (ix + 1) L [.int v, .int (nI c), .ref 130] S' Q) → (∀ S', zSh S' → Q (.inl none) S' → zW d m_M_unit (ix + 2) L [] S' Q) → ∀ S3, zMt F0 S S3 → jRd S3 b e (tkE b e p) op F0 o W.length → zcl d m_M_unit m_M_readNumber pc ix L [.int (nI c), .ref 130] [.ref 130, .int (nI 0), .int (nI hi)] S3 Q := fun c hi pc ix L c1 c2 c3 c4 c5 k1 K1 K2 S3 m3 h3 => by
          have gt := wd k1
          rw [← c1, if_neg c2, if_neg c3, ← c4] at V0
          have hi9 : hi ≤ 23 := by
            rw [c4]
            unfold vmq
            split <;> omega
          refine r_num (by rw [Bool.and_eq_true]; exact ⟨rfl, Nat.ble_eq_true_of_le (by omega)⟩) h3 (fun g1 g2 g3 S4 m4 h4 => K1 _ S4 h4.1 ?_) (fun g1 S4 m4 s4 d4 => K1 _ S4 s4 (q_emit s4 d4 (by omega) (K2 S4 s4 ?_))) (fun g1 g2 S4 m4 s4 d4 => K1 _ S4 s4 (q_emit s4 d4 (by omega) (K2 S4 s4 ?_)))
          · rw [if_pos g1, if_pos g3] at V0
            have ge2 := tkE_ge (b := b) (e := e) (p := tkE b e p)
            refine r_emit (c := c) c5.symm (h4.up (n' := W.length + 1) (by omega)) (fun S5 m5 h5 => K2 S5 h5.1 (fin c _ _ S5 ((m3.tr m4).tr m5) h5 (by omega) V0))
          · rw [if_neg g1] at V0
            exact flt 1 _ S4 (m3.tr m4) s4 d4 (by omega) t2 V0
          · rw [if_pos g1, if_neg (fun z => g2 ⟨Nat.zero_le _, z⟩)] at V0
            exact flt 2 _ S4 (m3.tr m4) s4 d4 (by omega) t2 V0
        by_cases a1 : tkW b e p = sV 61
        · have k1 := tkW_1 z1 a1
          have vc : vwd (tkW b e p) = 1 := by
            unfold vwd
            rw [if_pos a1]
          refine ⟨fun _ => r_pass h2 hp k1 (fun S3 m3 h3 => e_M_unit_49 hd5 h3.1 (w_M_of rfl h3.1 h3.2.1 (e_M_unit_53 hd5 h3.1 ⟨fun z => absurd ((ne rfl).mpr a1) z, fun _ => nm 1 11 112 60 _ vc.symm (by omega) (by omega) rfl rfl k1 (fun v S' s' k => e_M_unit_61 hd5 s' k) (fun S' s' k => e_M_unit_62 hd5 s' k) S3 (m12.tr m3) h3⟩))), fun z => absurd ((ne rfl).mpr a1) z⟩
        · refine ⟨fun z => absurd ((ne rfl).mp z) a1, fun _ => w_M_of rfl h2.1 h2.2.1 (e_M_unit_46 hd5 h2.1 ⟨fun z2 => ?_, fun z2 => ?_⟩)⟩
          · have a2 : tkW b e p ≠ sV 63 := fun y => z2 ((ne rfl).mpr y)
            refine w_M_of rfl h2.1 h2.2.1 (e_M_unit_66 hd5 h2.1 ⟨fun z3 => ?_, fun z3 => ?_⟩)
            · have a3 : tkW b e p ≠ sV 65 := fun y => z3 ((ne rfl).mpr y)
              refine w_M_of rfl h2.1 h2.2.1 (e_M_unit_80 hd5 h2.1 ⟨fun z4 => ?_, fun z4 => ?_⟩)
              · have a4 : tkW b e p ≠ sV 67 := fun y => z4 ((ne rfl).mpr y)
                have vc : vwd (tkW b e p) = 0 := by
                  unfold vwd
                  rw [if_neg a1, if_neg a2, if_neg a3, if_neg a4]
                rw [if_pos vc] at V0
                exact r_wrong h2 (fun S3 m3 s3 d3 => e_M_unit_93 hd5 s3 (flt 1 _ S3 (m12.tr m3) s3 d3 (by omega) s2 V0))
              · have a4 := (ne (r := 67) rfl).mp (Classical.not_not.mp z4)
                have k1 := tkW_1 z4' a4
                have vc : vwd (tkW b e p) = 4 := by
                  unfold vwd
                  rw [if_neg a1, if_neg a2, if_neg a3, if_pos a4]
                rw [if_neg (by omega), if_pos vc] at V0
                have gt := wd k1
                exact r_pass h2 hp k1 (fun S3 m3 h3 => e_M_unit_83 hd5 h3.1 (r_emit (c := 4) rfl (h3.up (n' := W.length + 1) (by omega)) (fun S4 m4 h4 => e_M_unit_87 hd5 h4.1 (fin 4 0 _ S4 ((m12.tr m3).tr m4) h4 gt V0))))
            · have a3 := (ne (r := 65) rfl).mp (Classical.not_not.mp z3)
              have k1 := tkW_1 z3' a3
              have vc : vwd (tkW b e p) = 3 := by
                unfold vwd
                rw [if_neg a1, if_neg a2, if_pos a3]
              exact r_pass h2 hp k1 (fun S3 m3 h3 => e_M_unit_69 hd5 h3.1 (nm 3 23 140 74 _ vc.symm (by omega) (by omega) rfl rfl k1 (fun v S' s' k => e_M_unit_75 hd5 s' k) (fun S' s' k => e_M_unit_76 hd5 s' k) S3 (m12.tr m3) h3))
          · have a2 := (ne (r := 63) rfl).mp (Classical.not_not.mp z2)
            have k1 := tkW_1 z2' a2
            have vc : vwd (tkW b e p) = 2 := by
              unfold vwd
              rw [if_neg a1, if_pos a2]
            refine r_pass h2 hp k1 (fun S3 m3 h3 => e_M_unit_49 hd5 h3.1 (w_M_of rfl h3.1 h3.2.1 (e_M_unit_53 hd5 h3.1 ⟨fun _ => nm 2 11 112 60 _ vc.symm (by omega) (by omega) rfl rfl k1 (fun v S' s' k => e_M_unit_61 hd5 s' k) (fun S' s' k => e_M_unit_62 hd5 s' k) S3 (m12.tr m3) h3, fun z => absurd ((ne rfl).mp (Classical.not_not.mp z)) a1⟩)))
