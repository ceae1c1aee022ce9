/-! Wrong acts -/
theorem go_3 {n : Nat} {kd fa fb : Nat → Nat} (hW : zWy n kd fa fb) : ∀ (f m t : Nat) (h p : Nat → Nat), t < n → (∃ h' p' t', go n kd fa fb f h p t m = (h', p', t', m + f, 3, 9) ∧ t' < n) ∨ (go n kd fa fb f h p t m).2.2.2.2.1 < 3
  | 0, m, t, h, p, ht => Or.inl ⟨h, p, t, rfl, ht⟩
  | f + 1, m, t, h, p, ht => by
    cases hq : dox (kd t) (fa t) (fb t) h p with
    | none =>
      rw [go_n hq]
      exact Or.inr (show 2 < 3 by omega)
    | some q =>
      rw [go_s hq]
      rcases mvr_c (n := n) (b := fb t) (t := t) (h := q.1) (p := q.2) (hW.2.2 t ht).2.2.2.2.1 with ⟨y1, y2, y3⟩ | y1
      · rw [if_pos y1, show m + (f + 1) = m + 1 + f by omega]
        exact go_3 hW f (m + 1) _ q.1 q.2 y2
      · rw [if_neg (by omega)]
        exact Or.inr y1
/-- the wrong act: left out, or done twice -/
def wr (n : Nat) (kd fa fb : Nat → Nat) (how : Nat) (h p : Nat → Nat) (t m : Nat) : (Nat → Nat) × (Nat → Nat) × Nat × Nat × Nat × Nat :=
  if how = 0 then (h, p, t + 1, m + 1, (if n ≤ t + 1 then 0 else 3), 9) else match dox (kd t) (fa t) (fb t) h p with
    | none => (h, p, t, m, 2, 9)
    | some q => match dox (kd t) (fa t) (fb t) q.1 q.2 with
      | none => (q.1, q.2, t, m, 2, 9)
      | some r => (r.1, r.2, (mvr n (kd t) (fa t) (fb t) t r.1 r.2).1, m + 1, (mvr n (kd t) (fa t) (fb t) t r.1 r.2).2)
/-- a run with a wrong act -/
def gow (n : Nat) (kd fa fb : Nat → Nat) (lim k how : Nat) (h p : Nat → Nat) : (Nat → Nat) × (Nat → Nat) × Nat × Nat × Nat × Nat :=
  let r := go n kd fa fb k h p 0 0
  if r.2.2.2.2.1 = 3 then
    let w := wr n kd fa fb how r.1 r.2.1 r.2.2.1 r.2.2.2.1
    if w.2.2.2.2.1 = 3 then go n kd fa fb (lim - k - 1) w.1 w.2.1 w.2.2.1 w.2.2.2.1 else w
  else r
theorem wr_0 {n : Nat} {kd fa fb : Nat → Nat} {h p : Nat → Nat} {t m : Nat} : wr n kd fa fb 0 h p t m = (h, p, t + 1, m + 1, (if n ≤ t + 1 then 0 else 3), 9) := by
  unfold wr
  rw [if_pos rfl]
theorem wr_1n {n : Nat} {kd fa fb : Nat → Nat} {h p : Nat → Nat} {t m : Nat} (e : dox (kd t) (fa t) (fb t) h p = none) : wr n kd fa fb 1 h p t m = (h, p, t, m, 2, 9) := by
  unfold wr
  rw [if_neg (by omega), e]
theorem wr_1s {n : Nat} {kd fa fb : Nat → Nat} {h p : Nat → Nat} {t m : Nat} {q : (Nat → Nat) × (Nat → Nat)} (e : dox (kd t) (fa t) (fb t) h p = some q) (e2 : dox (kd t) (fa t) (fb t) q.1 q.2 = none) : wr n kd fa fb 1 h p t m = (q.1, q.2, t, m, 2, 9) := by
  unfold wr
  rw [if_neg (by omega), e]
  simp only [e2]
theorem wr_1d {n : Nat} {kd fa fb : Nat → Nat} {h p : Nat → Nat} {t m : Nat} {q r : (Nat → Nat) × (Nat → Nat)} (e : dox (kd t) (fa t) (fb t) h p = some q) (e2 : dox (kd t) (fa t) (fb t) q.1 q.2 = some r) : wr n kd fa fb 1 h p t m = (r.1, r.2, (mvr n (kd t) (fa t) (fb t) t r.1 r.2).1, m + 1, (mvr n (kd t) (fa t) (fb t) t r.1 r.2).2) := by
  unfold wr
  rw [if_neg (by omega), e]
  simp only [e2]
theorem gow_e {n : Nat} {kd fa fb : Nat → Nat} {lim k how : Nat} {h p : Nat → Nat} (e : (go n kd fa fb k h p 0 0).2.2.2.2.1 < 3) : gow n kd fa fb lim k how h p = go n kd fa fb k h p 0 0 := by
  unfold gow
  simp only
  rw [if_neg (by omega)]
theorem gow_g {n : Nat} {kd fa fb : Nat → Nat} {lim k how t : Nat} {h p h' p' : Nat → Nat} (e : go n kd fa fb k h p 0 0 = (h', p', t, k, 3, 9)) : gow n kd fa fb lim k how h p = if (wr n kd fa fb how h' p' t k).2.2.2.2.1 = 3 then go n kd fa fb (lim - k - 1) (wr n kd fa fb how h' p' t k).1 (wr n kd fa fb how h' p' t k).2.1 (wr n kd fa fb how h' p' t k).2.2.1 (wr n kd fa fb how h' p' t k).2.2.2.1 else wr n kd fa fb how h' p' t k := by
  unfold gow
  rw [e]
  rfl
/-- the rest of a run behind a wrong act -/
theorem w_Ru_rest {o ra rb rc n : Nat} {kd fa fb : Nat → Nat} (hW : zWy n kd fa fb) (n0 : zNo [106, 108, 109] o) (n1 : zNo [106, 108, 109] ra) (n2 : zNo [106, 108, 109] rb) (n3 : zNo [106, 108, 109] rc) {lim : Nat} {w : (Nat → Nat) × (Nat → Nat) × Nat × Nat × Nat × Nat} {S : ZSt} {Q : ZOut → ZSt → Prop} (hS : zSh S) (hw : jWO S o ra rb rc n kd fa fb) (hl : lim ≤ 4000) (hr : jR S w) (hc : (w.2.2.2.2 = (3, 9) ∧ w.2.2.1 < n) ∨ w.2.2.2.2.1 < 3)
    (hQ : ∀ S', zJ [106, 108, 109] S S' → jR S' (if w.2.2.2.2.1 = 3 then go n kd fa fb lim w.1 w.2.1 w.2.2.1 w.2.2.2.1 else w) → Q (.inl none) S') : zC m_Ru_follow [.ref 106, .ref o, .int (nI lim)] S Q := by
  obtain ⟨h, p, t, m, e⟩ := w
  rcases hc with ⟨a, b⟩ | a
  · have a : e = (3, 9) := a
    subst a
    rw [if_pos rfl] at hQ
    exact w_Ru_follow hW n0 n1 n2 n3 hS hw hl b hr hQ
  · rw [if_neg (by omega)] at hQ
    exact b_Ru_follow hS (w_Ru_follow_end hS hr.2.2.2.2.1 a (hQ S zJ.rf hr))
theorem w_Ru_followWrong {o ra rb rc n : Nat} {kd fa fb : Nat → Nat} (hW : zWy n kd fa fb) (n0 : zNo [106, 108, 109] o) (n1 : zNo [106, 108, 109] ra) (n2 : zNo [106, 108, 109] rb) (n3 : zNo [106, 108, 109] rc) {k how : Nat} {h p : Nat → Nat} {S : ZSt} {Q : ZOut → ZSt → Prop} (hS : zSh S) (hw : jWO S o ra rb rc n kd fa fb) (hk : k < 2000) (hh : how ≤ 1) (hr : jR S (h, p, 0, 0, 3, 9)) (hQ : ∀ S', zJ [106, 108, 109] S S' → jR S' (gow n kd fa fb 2000 k how h p) → Q (.inl none) S') : zC m_Ru_followWrong [.ref 106, .ref o, .int (nI k), .int (nI how)] S Q := by
  have hn := hW.2.1
  have o6 : o ≠ 106 := fun e => by rw [e] at n0; cases n0
  refine b_Ru_followWrong hS (w_Ru_follow hW n0 n1 n2 n3 hS hw (by omega) hW.1 hr (fun S1 j1 r1 => b_Ru_followWrong_4 (j1.sh hS) ?_))
  have hS1 := j1.sh hS
  have hw1 := hw.J j1 n0 n1 n2 n3
  have el : (nI 2000 - nI k) - nI 1 = nI (2000 - k - 1) := by
    rw [pk_sub (by omega), pk_sub (by omega)]
  rcases go_3 hW k 0 0 h p hW.1 with ⟨h', p', t, e, ht⟩ | e
  · rw [Nat.zero_add] at e
    rw [gow_g e] at hQ
    rw [e] at r1
    obtain ⟨rH, rP, e3, e4, e5, e6⟩ := id r1
    rw [e5, e4, e3, nI_add, nI_add]
    refine ⟨fun _ => ⟨fun hb => ?_, fun hb => ?_⟩, fun h9 => absurd rfl h9⟩
    · obtain rfl : how = 1 := by
        by_cases h0 : how = 0
        · exact absurd (by rw [h0]; decide) hb
        · omega
      refine w_Ru_isDone hS1 hW hw1 ht e3 rH rP (fun q hq S2 j2 hh2 hp2 => ?_) (fun hq S2 j2 hh2 hp2 => ?_)
      · have hS2 := j2.sh hS1
        have c106 : zI S2 106 = zI S1 106 := j2.2 106 rfl
        have j2' : zJ [106, 108, 109] S1 S2 := zJ3 j2 (fun c hc => (zmemN hc).2)
        refine b_Ru_followWrong_30 hS2 ⟨fun h9 => absurd h9 (by decide), fun _ => ?_⟩
        refine w_Ru_isDone hS2 hW (hw1.J j2' n0 n1 n2 n3) ht (by rw [c106]; exact e3) hh2 hp2 (fun r hr2 S3 j3 hh3 hp3 => ?_) (fun hr2 S3 j3 hh3 hp3 => ?_)
        · have hS3 := j3.sh hS2
          have c106' : zI S3 106 = zI S1 106 := (j3.2 106 rfl).trans c106
          have j3' : zJ [106, 108, 109] S1 S3 := j2'.tr (zJ3 j3 (fun c hc => (zmemN hc).2))
          refine b_Ru_followWrong_34 hS3 ⟨fun h9 => absurd h9 (by decide), fun _ => ?_⟩
          rw [c106', e4, nI_add]
          have jm : zJ [106, 108, 109] S1 (zsI S3 106 4 (nI (k + 1))) := j3'.I rfl
          refine w_Ru_moveOn (S := zsI S3 106 4 (nI (k + 1))) (h := r.1) (p := r.2) (t := t) hS3 hW (hw1.J jm n0 n1 n2 n3) o6 ht ?_ ?_ ?_ hh3 hp3 (fun S4 j4 x4 x3 x5 x6 => b_Ru_followWrong_44 (j4.sh hS3) ?_)
          · rw [zI_o (by omega), c106']
            exact e3
          · rw [zI_o (by omega), c106']
            exact e5
          · rw [zI_o (by omega), c106']
            exact e6
          · have j4' : zJ [106, 108, 109] S1 S4 := jm.tr (zJ3 j4 (fun c hc => zmemC (zmemN hc).1 rfl))
            rw [el]
            rw [wr_1d hq hr2] at hQ
            refine w_Ru_rest hW n0 n1 n2 n3 (w := (r.1, r.2, (mvr n (kd t) (fa t) (fb t) t r.1 r.2).1, k + 1, (mvr n (kd t) (fa t) (fb t) t r.1 r.2).2)) (j4.sh hS3) (hw1.J j4' n0 n1 n2 n3) (by omega) ⟨?_, ?_, x3, ?_, x5, x6⟩ ?_ (fun S5 j5 r5 => b_Ru_followWrong_56 (j5.sh (j4.sh hS3)) (hQ S5 ((j1.tr j4').tr j5) r5))
            · show jN (zI S4 108) 12 1000000000 r.1
              rw [j4.2 108 rfl, zI_ne _ _ (by omega)]
              exact hh3
            · show jN (zI S4 109) 24 3 r.2
              rw [j4.2 109 rfl, zI_ne _ _ (by omega)]
              exact hp3
            · show zI S4 106 4 = nI (k + 1)
              rw [x4, zI_s]
            · rcases mvr_c (n := n) (b := fb t) (t := t) (h := r.1) (p := r.2) (hW.2.2 t ht).2.2.2.2.1 with ⟨y1, y2, y3⟩ | y1
              · exact Or.inl ⟨Prod.ext y1 y3, y2⟩
              · exact Or.inr y1
        · have hS3 := j3.sh hS2
          have c106' : zI S3 106 = zI S1 106 := (j3.2 106 rfl).trans c106
          have j3' : zJ [106, 108, 109] S1 S3 := j2'.tr (zJ3 j3 (fun c hc => (zmemN hc).2))
          refine b_Ru_followWrong_34 hS3 ⟨fun _ => ?_, fun h9 => absurd (by decide) h9⟩
          rw [el]
          rw [wr_1s hq hr2] at hQ
          have jm : zJ [106, 108, 109] S1 (zsI S3 106 5 (nI 2)) := j3'.I rfl
          refine w_Ru_rest hW n0 n1 n2 n3 (w := (q.1, q.2, t, k, 2, 9)) (S := zsI S3 106 5 (nI 2)) hS3 (hw1.J jm n0 n1 n2 n3) (by omega) ⟨hh3, hp3, ?_, ?_, zI_s, ?_⟩ (Or.inr (show 2 < 3 by omega)) (fun S5 j5 r5 => b_Ru_followWrong_56 (j5.sh hS3) (hQ S5 ((j1.tr jm).tr j5) r5))
          · rw [zI_o (by omega), c106']
            exact e3
          · rw [zI_o (by omega), c106']
            exact e4
          · rw [zI_o (by omega), c106']
            exact e6
      · have hS2 := j2.sh hS1
        have c106 : zI S2 106 = zI S1 106 := j2.2 106 rfl
        have j2' : zJ [106, 108, 109] S1 S2 := zJ3 j2 (fun c hc => (zmemN hc).2)
        refine b_Ru_followWrong_30 hS2 ⟨fun _ => ?_, fun h9 => absurd (by decide) h9⟩
        rw [el]
        rw [wr_1n hq] at hQ
        have jm : zJ [106, 108, 109] S1 (zsI S2 106 5 (nI 2)) := j2'.I rfl
        refine w_Ru_rest hW n0 n1 n2 n3 (w := (h', p', t, k, 2, 9)) (S := zsI S2 106 5 (nI 2)) hS2 (hw1.J jm n0 n1 n2 n3) (by omega) ⟨hh2, hp2, ?_, ?_, zI_s, ?_⟩ (Or.inr (show 2 < 3 by omega)) (fun S5 j5 r5 => b_Ru_followWrong_56 (j5.sh hS2) (hQ S5 ((j1.tr jm).tr j5) r5))
        · rw [zI_o (by omega), c106]
          exact e3
        · rw [zI_o (by omega), c106]
          exact e4
        · rw [zI_o (by omega), c106]
          exact e6
    · obtain rfl : how = 0 := by
        by_cases h0 : how = 0
        · exact h0
        · exact absurd (nI_ne0 (by omega) (by omega)) hb
      have jm : zJ [106, 108, 109] S1 (zsI (zsI S1 106 4 (nI (k + 1))) 106 3 (nI (t + 1))) := (zJ.rf.I rfl).I rfl
      refine w_Ru_ebl (S := zsI (zsI S1 106 4 (nI (k + 1))) 106 3 (nI (t + 1))) (t := t + 1) hS1 hw1.1 ((hw1.J jm n0 n1 n2 n3).2.1) hn zI_s (by omega) ?_ (fun S4 j4 x1 x5 => b_Ru_followWrong_26 (j4.sh hS1) ?_)
      · rw [zI_o (by omega), zI_o (by omega)]
        exact e5
      · have j4' : zJ [106, 108, 109] S1 S4 := jm.tr (zJ3 j4 (fun c hc => zmemC (zmemN hc).1 rfl))
        rw [el]
        rw [wr_0] at hQ
        refine w_Ru_rest hW n0 n1 n2 n3 (w := (h', p', t + 1, k + 1, (if n ≤ t + 1 then 0 else 3), 9)) (j4.sh hS1) (hw1.J j4' n0 n1 n2 n3) (by omega) ⟨?_, ?_, ?_, ?_, x5, ?_⟩ ?_ (fun S5 j5 r5 => b_Ru_followWrong_56 (j5.sh (j4.sh hS1)) (hQ S5 ((j1.tr j4').tr j5) r5))
        · show jN (zI S4 108) 12 1000000000 h'
          rw [j4.2 108 rfl]
          exact rH
        · show jN (zI S4 109) 24 3 p'
          rw [j4.2 109 rfl]
          exact rP
        · show zI S4 106 3 = nI (t + 1)
          rw [x1 3 (by omega), zI_s]
        · show zI S4 106 4 = nI (k + 1)
          rw [x1 4 (by omega), zI_o (by omega), zI_s]
        · show zI S4 106 6 = nI 9
          rw [x1 6 (by omega), zI_o (by omega), zI_o (by omega)]
          exact e6
        · by_cases h9 : n ≤ t + 1
          · rw [if_pos h9]
            exact Or.inr (show 0 < 3 by omega)
          · rw [if_neg h9]
            exact Or.inl ⟨rfl, Nat.lt_of_not_le h9⟩
  · rw [gow_e e] at hQ
    have e5 := r1.2.2.2.2.1
    rw [e5]
    refine ⟨fun h9 => ?_, fun _ => hQ S1 j1 r1⟩
    have := nEq (by omega) (by omega) h9
    omega
