/-! Wrong acts: the reference -/
theorem dox_idN {k a b : Nat} {h p : Nat → Nat} (hk : ¬ (k ≤ 3 ∨ k = 5 ∨ k = 6)) : dox k a b h p = some (h, p) := dox_id (by omega)
theorem w_M_goes_lim {n q : Nat} {kd fa fb : Nat → Nat} (hW : zWy n kd fa fb) (hq : q ≤ 6) {lim t : Nat} {h p : Nat → Nat} {k how x5 : Int32} {u6 : Option Value} {S : ZSt} {Q : ZOut → ZSt → Prop} (hS : zSh S) (hw : jWM S q n kd fa fb) (hl : lim ≤ 4000) (ht : t < n) (hr : jQ S (h, p, t, lim, 3, 9)) (h : Q (.inl none) S) : zW 3 m_M_goes 44 [some (.ref 130), some (.int (nI q)), some (.int (nI lim)), some (.int k), some (.int how), some (.int x5), u6] [] S Q := by
  have hn := hW.2.1
  obtain ⟨-, -, e31, e30, -, -⟩ := hr
  refine b_M_goes_44 hS ?_
  rw [zcl9 (by omega), hw.1, e31, e30]
  refine ⟨zin (by omega) (by omega), fun _ => ⟨fun h9 => absurd rfl h9, fun _ => h⟩, fun h9 => absurd (fun e9 => ?_) h9⟩
  have := nEq (a := t) (b := n) (by omega) (by omega) e9
  omega
/-- from behind the wrong act to the end -/
theorem w_M_goes_rest {n q : Nat} {kd fa fb : Nat → Nat} (hW : zWy n kd fa fb) (hA : zAl n kd fa fb) (hq : q ≤ 6) {lim m t : Nat} {h p : Nat → Nat} {how x5 : Int32} {k : Nat} {u6 : Option Value} {S : ZSt} {Q : ZOut → ZSt → Prop} (hS : zSh S) (hw : jWM S q n kd fa fb) (hl : lim ≤ 4000) (ht : t < n) (hm : k < m) (hml : m ≤ lim) (h34 : zI S 130 34 = - nI 1) (hr : jQ S (h, p, t, m, 3, 9)) (hQ : ∀ S', zJ [130, 146, 147] S S' → zK130 S S' → jQ S' (go n kd fa fb (lim - m) h p t m) → Q (.inl none) S') : zW 3 m_M_goes 44 [some (.ref 130), some (.int (nI q)), some (.int (nI lim)), some (.int (nI k)), some (.int how), some (.int x5), u6] [] S Q := by
  refine w_M_goes_44 hW hA hq (lim - m) m t h p hS hw ht (by omega) hl (fun i h1 h2 e => ?_) h34 hr (fun S' j s _ r => hQ S' j s r) (fun S' h' p' t' y5 y6 j s e ht' r => ?_)
  · have := nEq (a := i) (b := k) (by omega) (by omega) e
    omega
  · have r' := r
    rw [← e] at r'
    rw [show m + (lim - m) = lim by omega] at r
    exact w_M_goes_lim hW hq (j.sh hS) (hw.J j rfl) hl ht' r (hQ S' j s r')
theorem w_M_goesW {n q : Nat} {kd fa fb : Nat → Nat} (hW : zWy n kd fa fb) (hA : zAl n kd fa fb) (hq : q ≤ 6) {lim k how : Nat} {h p : Nat → Nat} {S : ZSt} {Q : ZOut → ZSt → Prop} (hS : zSh S) (hw : jWM S q n kd fa fb) (hl : lim ≤ 4000) (hk : k < lim) (hh : how ≤ 1) (h34 : zI S 130 34 = - nI 1) (hH : jN (zI S 145) 12 1000000000 h) (hP : jN (zI S 147) 24 3 p)
    (hQ : ∀ S', zJ [130, 146, 147] S S' → zK36 S S' → jQ S' (gow n kd fa fb lim k how h p) → Q (.inl none) S') : zC m_M_goes [.ref 130, .int (nI q), .int (nI lim), .int (nI k), .int (nI how)] S Q := by
  have hn := hW.2.1
  refine w_M_goes0 hS h34 hH hP (fun S1 x5 u6 j1 s1 r1 => ?_)
  have hs : ∀ S', zK130 S1 S' → zK36 S S' := fun S' s j h1 h2 => (s j h1).trans (s1 j h1 h2)
  have k34 : zI S1 130 34 = - nI 1 := (s1 34 (by omega) (by omega)).trans h34
  refine w_M_goes_44 hW hA hq k 0 0 h p (j1.sh hS) (hw.J j1 rfl) hW.1 (by omega) hl (fun i h1 h2 e => by have := nEq (a := i) (b := k) (by omega) (by omega) e; omega) k34 r1 (fun S2 j2 s2 e r2 => hQ S2 (j1.tr j2) (hs S2 s2) (by rw [gow_e e]; exact r2)) (fun S2 h' p' t y5 y6 j2 s2 e ht r2 => ?_)
  rw [Nat.zero_add] at e r2
  rw [gow_g e] at hQ
  have jj := j1.tr j2
  have hS2 := jj.sh hS
  have hw2 := hw.J jj rfl
  have k34' : zI S2 130 34 = - nI 1 := (s2 34 (by omega)).trans k34
  obtain ⟨rH, rP, e31, e30, e29, e32⟩ := id r2
  have hc : (nI (24 * q + t)).toNatClampNeg = 24 * q + t := zcl9 (by omega)
  have hi : vp_in (nI (24 * q + t)) 168 := zin (by omega) (by omega)
  refine b_M_goes_44 hS2 ?_
  rw [zcl9 (by omega), hw2.1, e31, e30, pk_mul, nI_add, nI_add, nI_add]
  refine ⟨zin (by omega) (by omega), fun _ => ⟨fun _ => ⟨fun h9 => absurd rfl h9, fun _ => ⟨fun hb => ?_, fun hb => ?_⟩⟩, fun h9 => absurd (fun e9 => ?_) h9⟩, fun h9 => absurd (fun e9 => ?_) h9⟩
  · obtain rfl : how = 1 := by
      by_cases h0 : how = 0
      · exact absurd (by rw [h0]; decide) hb
      · omega
    refine b_M_goes_86 hS2 ?_
    rw [e30, e31, nI_add, hc, (hw2.2 t ht).1]
    refine ⟨fun h9 => absurd rfl h9, fun _ => ⟨fun h9 => absurd rfl h9, fun _ => ⟨hi, ?_⟩⟩⟩
    have hk1 := (hW.2.2 t ht).1
    have hk5 := (hW.2.2 t ht).2.2.2.2.1
    have j3 : zJ [130, 146, 147] S2 (zsI S2 130 33 (nI (t + 1))) := zJ.rf.I rfl
    have s3 : zK130 S2 (zsI S2 130 33 (nI (t + 1))) := zK130.rf.I (by omega)
    have fin : ∀ {S4 : ZSt} {x6 : Int32} (r : (Nat → Nat) × (Nat → Nat)), zJ [130, 146, 147] S2 S4 → zK130 S2 S4 → (∀ j, j ≠ 33 → zI S4 130 j = zI S2 130 j) → jN (zI S4 146) 12 1000000000 r.1 → jN (zI S4 147) 24 3 r.2 → zI S4 130 33 = nI (nx (kd t) (fa t) (fb t) t r.1 r.2) → wr n kd fa fb 1 h' p' t k = (r.1, r.2, (mvr n (kd t) (fa t) (fb t) t r.1 r.2).1, k + 1, (mvr n (kd t) (fa t) (fb t) t r.1 r.2).2) → zW 3 m_M_goes 123 [some (.ref 130), some (.int (nI q)), some (.int (nI lim)), some (.int (nI k)), some (.int (nI 1)), some (.int (nI (24 * q + t))), some (.int x6)] [] S4 Q := fun {S4 x6} r j4 s4 a4 hh4 hp4 ej ew => by
      rw [ew] at hQ
      refine w_M_goes_123 hW hA hq (m := k) (h := r.1) (p := r.2) (j4.sh hS2) (hw2.J j4 rfl) ht ((s4 34 (by omega)).trans k34') hh4 hp4 ((a4 31 (by omega)).trans e31) ((a4 30 (by omega)).trans e30) ((a4 29 (by omega)).trans e29) ((a4 32 (by omega)).trans e32) ej (fun S' j s y1 y2 => ?_) (fun S' z5 z6 j s y1 y2 y3 => ?_)
      · rw [if_neg (by simp only; omega)] at hQ
        exact hQ S' ((jj.tr j4).tr j) (hs S' ((s2.tr s4).tr s)) y2
      · rw [y1, if_pos rfl] at hQ
        exact w_M_goes_rest hW hA hq ((j4.tr j).sh hS2) (hw2.J (j4.tr j) rfl) hl y2 (by omega) (by omega) (((s4.tr s) 34 (by omega)).trans k34') y3 (fun S5 j5 s5 r5 => hQ S5 ((jj.tr (j4.tr j)).tr j5) (hs S5 ((s2.tr (s4.tr s)).tr s5)) (by rw [show lim - k - 1 = lim - (k + 1) by omega]; exact r5))
    have fail : ∀ {S4 : ZSt} (a b : Nat → Nat), zJ [130, 146, 147] S2 S4 → zK130 S2 S4 → (∀ j, j ≠ 33 → zI S4 130 j = zI S2 130 j) → jN (zI S4 146) 12 1000000000 a → jN (zI S4 147) 24 3 b → wr n kd fa fb 1 h' p' t k = (a, b, t, k, 2, 9) → Q (.inl none) (zsI S4 130 29 (nI 2)) := fun {S4} a b j4 s4 a4 hh4 hp4 ew => by
      rw [ew, if_neg (by simp only; omega)] at hQ
      refine hQ _ ((jj.tr j4).I rfl) (hs _ ((s2.tr s4).I (by omega))) ⟨hh4, hp4, ?_, ?_, zI_s, ?_⟩
      · rw [zI_o (by omega), a4 31 (by omega)]
        exact e31
      · rw [zI_o (by omega), a4 30 (by omega)]
        exact e30
      · rw [zI_o (by omega), a4 32 (by omega)]
        exact e32
    have a3 : ∀ j, j ≠ 33 → zI (zsI S2 130 33 (nI (t + 1))) 130 j = zI S2 130 j := fun j hj => zI_o hj
    have thing : (kd t ≤ 3 ∨ kd t = 5 ∨ kd t = 6) → zW 3 m_M_goes 98 [some (.ref 130), some (.int (nI q)), some (.int (nI lim)), some (.int (nI k)), some (.int (nI 1)), some (.int (nI (24 * q + t))), y6] [.int (nI 1)] S2 Q := fun hth => by
      refine b_M_goes_98 hS2 ?_
      rw [e31, nI_add]
      refine ⟨fun h9 => absurd h9 (by decide), fun _ => ?_⟩
      refine w_M_does (S := zsI S2 130 33 (nI (t + 1))) (h := h') (p := p') hS2 hW (hw2.J j3 rfl) hq ht rH rP zI_s (fun r1' hr1 S4 j4 s4 hh4 hp4 ej => ?_) (fun hr1 => ?_)
      · have jj4 := j3.tr j4
        refine b_M_goes_112 (jj4.sh hS2) ⟨fun h9 => absurd h9 (by decide), fun _ => ⟨fun h9 => absurd h9 (by decide), fun _ => ?_⟩⟩
        rw [nxk (by omega) (by omega) (by omega) (by omega)] at ej
        have a4 : ∀ j, j ≠ 33 → zI S4 130 j = zI S2 130 j := fun j hj => (s4 j hj).trans (a3 j hj)
        have ss4 : zK130 S2 S4 := fun j hj => a4 j (by omega)
        refine w_M_does (h := r1'.1) (p := r1'.2) (jj4.sh hS2) hW (hw2.J jj4 rfl) hq ht hh4 hp4 ej (fun r2' hr2 S5 j5 s5 hh5 hp5 ej5 => ?_) (fun hr2 => ?_)
        · have jj5 := jj4.tr j5
          have a5 : ∀ j, j ≠ 33 → zI S5 130 j = zI S2 130 j := fun j hj => (s5 j hj).trans (a4 j hj)
          exact b_M_goes_118 (jj5.sh hS2) ⟨fun _ => fin r2' jj5 (fun j hj => a5 j (by omega)) a5 hh5 hp5 ej5 (wr_1d hr1 hr2), fun h9 => absurd (by decide) h9⟩
        · exact b_M_goes_118 (jj4.sh hS2) ⟨fun h9 => absurd (by decide) h9, fun _ => fail _ _ jj4 ss4 a4 hh4 hp4 (wr_1s hr1 hr2)⟩
      · exact b_M_goes_112 hS2 ⟨fun _ => fail _ _ j3 s3 a3 rH rP (wr_1n hr1), fun h9 => absurd (by decide) h9⟩
    have none' : ¬ (kd t ≤ 3 ∨ kd t = 5 ∨ kd t = 6) → zW 3 m_M_goes 98 [some (.ref 130), some (.int (nI q)), some (.int (nI lim)), some (.int (nI k)), some (.int (nI 1)), some (.int (nI (24 * q + t))), y6] [.int (nI 0)] S2 Q := fun hth => by
      refine b_M_goes_98 hS2 ?_
      rw [e31, nI_add]
      refine ⟨fun _ => ?_, fun h9 => absurd (by decide) h9⟩
      refine w_M_does (S := zsI S2 130 33 (nI (t + 1))) (h := h') (p := p') hS2 hW (hw2.J j3 rfl) hq ht rH rP zI_s (fun r1' hr1 S4 j4 s4 hh4 hp4 ej => ?_) (fun hr1 => by rw [dox_idN hth] at hr1; cases hr1)
      have jj4 := j3.tr j4
      have a4 : ∀ j, j ≠ 33 → zI S4 130 j = zI S2 130 j := fun j hj => (s4 j hj).trans (a3 j hj)
      have er : r1' = (h', p') := Option.some.inj (hr1.symm.trans (dox_idN hth))
      refine b_M_goes_112 (jj4.sh hS2) ⟨fun h9 => absurd h9 (by decide), fun _ => ⟨fun _ => fin r1' jj4 (fun j hj => a4 j (by omega)) a4 hh4 hp4 ej (wr_1d (q := (h', p')) (dox_idN hth) ?_), fun h9 => absurd (by decide) h9⟩⟩
      rw [er]
      exact dox_idN hth
    refine b_M_isThing hS2 ⟨fun h1 => ⟨rfl, thing (Or.inl ((nI_leI (by omega) (by omega)).mp h1))⟩, fun h1 => ⟨fun h2 => ⟨rfl, thing (Or.inr (Or.inl (nEq (by omega) (by omega) h2)))⟩, fun h2 => ⟨fun h3 => ⟨rfl, none' (fun h9 => ?_)⟩, fun h3 => ⟨rfl, thing (Or.inr (Or.inr (nEq (by omega) (by omega) (Classical.not_not.mp h3))))⟩⟩⟩⟩
    rcases h9 with h9 | h9 | h9
    · exact h1 (nI_le h9 (by omega))
    · exact h2 (by rw [h9])
    · exact h3 (by rw [h9])
  · obtain rfl : how = 0 := by
      by_cases h0 : how = 0
      · exact h0
      · exact absurd (nI_ne0 (by omega) (by omega)) hb
    rw [wr_0] at hQ
    have j3 : zJ [130, 146, 147] S2 (zsI (zsI S2 130 30 (nI (k + 1))) 130 31 (nI (t + 1))) := (zJ.rf.I rfl).I rfl
    have s3 : zK130 S2 (zsI (zsI S2 130 30 (nI (k + 1))) 130 31 (nI (t + 1))) := (zK130.rf.I (by omega)).I (by omega)
    refine b_M_goes_30 (S := zsI (zsI S2 130 30 (nI (k + 1))) 130 31 (nI (t + 1))) hS2 ?_
    rw [zI_s, s3 34 (by omega), k34']
    refine ⟨fun _ => ?_, fun h9 => absurd (nI_m1 (by omega)) h9⟩
    by_cases hlt : t + 1 < n
    · rw [show (if n ≤ t + 1 then (0 : Nat) else 3) = 3 from if_neg (by omega), if_pos rfl] at hQ
      exact w_M_goes_rest hW hA hq (h := h') (p := p') (m := k + 1) hS2 (hw2.J j3 rfl) hl hlt (by omega) (by omega) ((s3 34 (by omega)).trans k34') ⟨rH, rP, zI_s, (zI_o (by omega)).trans zI_s, ((zI_o (by omega)).trans (zI_o (by omega))).trans e29, ((zI_o (by omega)).trans (zI_o (by omega))).trans e32⟩ (fun S5 j5 s5 r5 => hQ S5 ((jj.tr j3).tr j5) (hs S5 ((s2.tr s3).tr s5)) (by rw [show lim - k - 1 = lim - (k + 1) by omega]; exact r5))
    · have en : t + 1 = n := by omega
      rw [show (if n ≤ t + 1 then (0 : Nat) else 3) = 0 from if_pos (by omega), if_neg (show ¬ (0 : Nat) = 3 by omega)] at hQ
      refine b_M_goes_44 (S := zsI (zsI S2 130 30 (nI (k + 1))) 130 31 (nI (t + 1))) hS2 ⟨zin (by omega) (by omega), fun h9 => absurd ?_ h9, fun _ => hQ _ ((jj.tr j3).I rfl) (hs _ ((s2.tr s3).I (by omega))) ⟨rH, rP, ?_, ?_, zI_s, ?_⟩⟩
      · rw [zI_s, zcl9 (by omega), (hw2.J j3 rfl).1, en]
      · rw [zI_o (by omega), zI_s]
      · rw [zI_o (by omega), zI_o (by omega), zI_s]
      · rw [zI_o (by omega), zI_o (by omega), zI_o (by omega)]
        exact e32
  · have := nEq (a := k) (b := lim) (by omega) (by omega) e9
    omega
  · have := nEq (a := t) (b := n) (by omega) (by omega) e9
    omega
