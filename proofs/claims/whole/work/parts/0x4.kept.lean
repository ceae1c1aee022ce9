/-! What is kept at an act -/
def ck (k : Nat) (cs : List (List (Nat × Nat))) (w h p : Nat → Nat) (t : Nat) : Bool := decide (t ≠ k) || tru (vl w h p 9) cs
def kpt (N : Nat) (kd fa fb : Nat → Nat) (k : Nat) (cs : List (List (Nat × Nat))) (w : Nat → Nat) : Nat → (Nat → Nat) → (Nat → Nat) → Nat → Bool
  | 0, h, p, t => ck k cs w h p t
  | f + 1, h, p, t => if ck k cs w h p t = true then (if N ≤ t then true else match dox (kd t) (fa t) (fb t) h p with
    | none => true
    | some q => if kd t = 10 ∨ kd t = 11 then true else kpt N kd fa fb k cs w f q.1 q.2 (nx (kd t) (fa t) (fb t) t q.1 q.2)) else false
theorem ck_ne {k t : Nat} {cs : List (List (Nat × Nat))} {w h p : Nat → Nat} (e : t ≠ k) : ck k cs w h p t = true := by
  unfold ck
  rw [decide_eq_true e]
  rfl
theorem ck_eq {k t : Nat} {cs : List (List (Nat × Nat))} {w h p : Nat → Nat} (e : t = k) : ck k cs w h p t = tru (vl w h p 9) cs := by
  unfold ck
  rw [decide_eq_false (fun h => h e)]
  rfl
theorem kpt_f {N : Nat} {kd fa fb : Nat → Nat} {k f t : Nat} {cs : List (List (Nat × Nat))} {w h p : Nat → Nat} (e : ck k cs w h p t = false) : kpt N kd fa fb k cs w f h p t = false := by
  cases f with
  | zero => exact e
  | succ f =>
    show (if ck k cs w h p t = true then _ else false) = false
    rw [e]
    rfl
theorem kpt_N {N : Nat} {kd fa fb : Nat → Nat} {k f t : Nat} {cs : List (List (Nat × Nat))} {w h p : Nat → Nat} (e : ck k cs w h p t = true) (ht : N ≤ t) : kpt N kd fa fb k cs w f h p t = true := by
  cases f with
  | zero => exact e
  | succ f =>
    show (if ck k cs w h p t = true then _ else false) = true
    rw [if_pos e, if_pos ht]
theorem kpt_n {N : Nat} {kd fa fb : Nat → Nat} {k f t : Nat} {cs : List (List (Nat × Nat))} {w h p : Nat → Nat} (e : ck k cs w h p t = true) (hd : dox (kd t) (fa t) (fb t) h p = none) : kpt N kd fa fb k cs w f h p t = true := by
  cases f with
  | zero => exact e
  | succ f =>
    show (if ck k cs w h p t = true then (if N ≤ t then true else match dox (kd t) (fa t) (fb t) h p with
      | none => true
      | some q => if kd t = 10 ∨ kd t = 11 then true else kpt N kd fa fb k cs w f q.1 q.2 (nx (kd t) (fa t) (fb t) t q.1 q.2)) else false) = true
    rw [if_pos e, hd]
    split <;> rfl
theorem kpt_e {N : Nat} {kd fa fb : Nat → Nat} {k f t : Nat} {cs : List (List (Nat × Nat))} {w h p : Nat → Nat} (e : ck k cs w h p t = true) (hk : kd t = 10 ∨ kd t = 11) : kpt N kd fa fb k cs w f h p t = true := by
  cases f with
  | zero => exact e
  | succ f =>
    show (if ck k cs w h p t = true then (if N ≤ t then true else match dox (kd t) (fa t) (fb t) h p with
      | none => true
      | some q => if kd t = 10 ∨ kd t = 11 then true else kpt N kd fa fb k cs w f q.1 q.2 (nx (kd t) (fa t) (fb t) t q.1 q.2)) else false) = true
    rw [if_pos e]
    split
    · rfl
    · split
      · rfl
      · first
        | rfl
        | rw [if_pos hk]
theorem kpt_s {N : Nat} {kd fa fb : Nat → Nat} {k f t : Nat} {cs : List (List (Nat × Nat))} {w h p : Nat → Nat} {q : (Nat → Nat) × (Nat → Nat)} (e : ck k cs w h p t = true) (ht : t < N) (hd : dox (kd t) (fa t) (fb t) h p = some q) (hk : ¬ (kd t = 10 ∨ kd t = 11)) : kpt N kd fa fb k cs w (f + 1) h p t = kpt N kd fa fb k cs w f q.1 q.2 (nx (kd t) (fa t) (fb t) t q.1 q.2) := by
  show (if ck k cs w h p t = true then (if N ≤ t then true else match dox (kd t) (fa t) (fb t) h p with
      | none => true
      | some q => if kd t = 10 ∨ kd t = 11 then true else kpt N kd fa fb k cs w f q.1 q.2 (nx (kd t) (fa t) (fb t) t q.1 q.2)) else false) = _
  rw [if_pos e, if_neg (by omega), hd]
  show (if kd t = 10 ∨ kd t = 11 then true else _) = _
  rw [if_neg hk]
theorem w_Ru_kA_end {o o2 : Nat} {x3 x4 x5 : Int32} {S : ZSt} {Q : ZOut → ZSt → Prop} (hS : zSh S) (h : nI 2000 < x5 ∨ x4 = 0) (hQ : Q (.inl (some (.int (nI 1)))) S) : zW 5 m_Ru_keepsAt 4 [some (.ref 106), some (.ref o), some (.ref o2), some (.int x3), some (.int x4), some (.int x5)] [] S Q := by
  refine b_Ru_keepsAt_4 hS ⟨fun _ => ⟨rfl, hQ⟩, fun h9 => ⟨fun _ => ⟨rfl, hQ⟩, fun h8 => ?_⟩⟩
  rcases h with h | h
  · exact absurd h h9
  · exact absurd h h8
theorem go_1n {n : Nat} {kd fa fb : Nat → Nat} {t m : Nat} {h p : Nat → Nat} (hq : dox (kd t) (fa t) (fb t) h p = none) : go n kd fa fb 1 h p t m = (h, p, t, m, 2, 9) := go_n hq
theorem go_1s {n : Nat} {kd fa fb : Nat → Nat} {t m : Nat} {h p : Nat → Nat} {q : (Nat → Nat) × (Nat → Nat)} (hq : dox (kd t) (fa t) (fb t) h p = some q) : go n kd fa fb 1 h p t m = (q.1, q.2, (mvr n (kd t) (fa t) (fb t) t q.1 q.2).1, m + 1, (mvr n (kd t) (fa t) (fb t) t q.1 q.2).2) := by
  rw [go_s hq]
  unfold mvr
  by_cases h1 : kd t = 10
  · simp only [if_pos h1]
    rfl
  · by_cases h2 : kd t = 11
    · simp only [if_neg h1, if_pos h2]
      rfl
    · simp only [if_neg h1, if_neg h2]
      by_cases h3 : n ≤ nx (kd t) (fa t) (fb t) t q.1 q.2
      · simp only [if_pos h3]
        rfl
      · simp only [if_neg h3]
        rfl
theorem w_Ru_kA_4 {o o2 N k : Nat} {kd fa fb : Nat → Nat} {cs : List (List (Nat × Nat))} {w : Nat → Nat} (hA : zAl N kd fa fb) (hk : k ≤ 24) : ∀ (f i m t e : Nat) (h p : Nat → Nat) {S : ZSt} {Q : ZOut → ZSt → Prop}, zSh S → OW S o N kd fa fb → OT S o2 cs → f + i = 2000 → (e = 3 ∧ t < N) ∨ (e = 0 ∧ t = N) → jN (zI S 107) 12 1000000000 w → jR S (h, p, t, m, e, 9) → (∀ S', zH lO S S' → zSh S' → jN (zI S' 107) 12 1000000000 w → Q (.inl (some (.int (zBo (kpt N kd fa fb k cs w f h p t))))) S') → zW 5 m_Ru_keepsAt 4 [some (.ref 106), some (.ref o), some (.ref o2), some (.int (nI k)), some (.int (nI 1)), some (.int (nI i))] [] S Q := by
  intro f
  induction f with
  | zero =>
    intro i m t e h p S Q hS hw ht hi hst hwas hr hQ
    have hN := hw.1.2.1
    have tail : ck k cs w h p t = true → ∀ {S1 : ZSt}, zSh S1 → zH lO S S1 → jN (zI S1 107) 12 1000000000 w → jR S1 (h, p, t, m, e, 9) → ((zI S1 106 5 = nI 3 → zcl 5 m_Ru_keepsAt m_Ru_follow 50 28 [some (.ref 106), some (.ref o), some (.ref o2), some (.int (nI k)), some (.int (nI 1)), some (.int (nI i))] [] [.ref 106, .ref o, .int (nI 1)] S1 Q) ∧ (¬ (zI S1 106 5 = nI 3) → (narrow .boolean (.int (nI 1)) = .int (nI 1) ∧ Q (.inl (some (.int (nI 1)))) S1))) := fun hc {S1} hS1 j1 w1 r1 => by
      have hq : ∀ S', zH lO S S' → zSh S' → jN (zI S' 107) 12 1000000000 w → Q (.inl (some (.int (nI 1)))) S' := fun S' a b c => by
        have := hQ S' a b c
        rw [show kpt N kd fa fb k cs w 0 h p t = true from hc] at this
        exact this
      refine ⟨fun e3 => ?_, fun _ => ⟨rfl, hq S1 j1 hS1 w1⟩⟩
      have he : e = 3 := by
        have := r1.2.2.2.2.1.symm.trans e3
        rcases hst with ⟨a, b⟩ | ⟨a, b⟩
        · exact a
        · rw [a] at this
          exact absurd this (show ¬ nI 0 = nI 3 by decide)
      subst he
      obtain ⟨y1, ra, rb, rc, ⟨d0, d1, d2, d3⟩, y2⟩ := hw.H j1
      refine w_Ru_follow y1 (d0.no rfl) (d1.no rfl) (d2.no rfl) (d3.no rfl) hS1 y2 (by omega) (by omega) r1 (fun S2 j2 r2 => ?_)
      have hS2 := j2.sh hS1
      have h2 : zH lO S S2 := j1.tr (j2.hO rfl)
      have w2 : jN (zI S2 107) 12 1000000000 w := by rw [j2.2 107 rfl]; exact w1
      have z : ∀ {x4 : Int32}, zW 5 m_Ru_keepsAt 4 [some (.ref 106), some (.ref o), some (.ref o2), some (.int (nI k)), some (.int x4), some (.int (nI i + nI 1))] [] S2 Q := fun {x4} => w_Ru_kA_end hS2 (Or.inl (by rw [nI_add]; exact nI_lt (by omega) (by omega))) (hq S2 h2 hS2 w2)
      refine b_Ru_keepsAt_29 hS2 ⟨fun _ => z, fun _ => ⟨?_, fun _ => z, fun _ => z⟩⟩
      rw [show zc S2 = zc S1 by show S2.2.2.2.2.1 = S1.2.2.2.2.1; rw [j2.1]]
      exact y2.1
    have htk : t ≤ 24 := by omega
    refine b_Ru_keepsAt_4 hS ⟨fun h9 => absurd h9 (nI_nlt (by omega) (by omega)), fun _ => ⟨fun h9 => absurd h9 (by decide), fun _ => ?_⟩⟩
    rw [hr.2.2.1]
    refine ⟨fun h9 => tail (ck_ne (fun e => h9 (by rw [show t = k from e]))) hS zH.rf hwas hr, fun h9 => ?_⟩
    have etk : t = k := nEq (by omega) (by omega) (Classical.not_not.mp h9)
    obtain ⟨t1, ta, tb, rs, t0, ⟨ta1, tb1⟩, ⟨ts1, ts2⟩, t2⟩ := ht
    refine ⟨t2.1, w_Tk_isTrueOf (w := w) (h := h) (p := p) (sd := 9) t1.2.1 (fun e => ta1.2 (by rw [← e]; exact ts1)) (fun e => tb1.2 (by rw [← e]; exact ts1)) (zmem_big (b := 162) rfl ts2) hS t2 (wfC_flat cs t1.2.2) ⟨hwas, hr.1, hr.2.1, hr.2.2.2.2.2⟩ (fun S1 j1 => ?_)⟩
    have hS1 := j1.sh hS
    have h1 : zH lO S S1 := j1.hs ts1
    have w1 : jN (zI S1 107) 12 1000000000 w := by rw [j1.2 107 (zmemC (by omega) rfl)]; exact hwas
    have r1 : jR S1 (h, p, t, m, e, 9) := by
      unfold jR
      rw [j1.2 106 (zmemC (by omega) rfl), j1.2 108 (zmemC (by omega) rfl), j1.2 109 (zmemC (by omega) rfl)]
      exact hr
    rw [evC_flat cs t1.2.2]
    cases hb : tru (vl w h p 9) cs with
    | false =>
      refine b_Ru_keepsAt_16 hS1 ⟨fun h8 => absurd (by decide) h8, fun _ => ⟨rfl, ?_⟩⟩
      have := hQ S1 h1 hS1 w1
      rw [kpt_f ((ck_eq etk).trans hb)] at this
      exact this
    | true =>
      exact b_Ru_keepsAt_16 hS1 ⟨fun _ => tail ((ck_eq etk).trans hb) hS1 h1 w1 r1, fun h8 => absurd (by decide) h8⟩
  | succ f ih =>
    intro i m t e h p S Q hS hw ht hi hst hwas hr hQ
    have hN := hw.1.2.1
    have tail : ck k cs w h p t = true → ∀ {S1 : ZSt}, zSh S1 → zH lO S S1 → jN (zI S1 107) 12 1000000000 w → jR S1 (h, p, t, m, e, 9) → ((zI S1 106 5 = nI 3 → zcl 5 m_Ru_keepsAt m_Ru_follow 50 28 [some (.ref 106), some (.ref o), some (.ref o2), some (.int (nI k)), some (.int (nI 1)), some (.int (nI i))] [] [.ref 106, .ref o, .int (nI 1)] S1 Q) ∧ (¬ (zI S1 106 5 = nI 3) → (narrow .boolean (.int (nI 1)) = .int (nI 1) ∧ Q (.inl (some (.int (nI 1)))) S1))) := fun hc {S1} hS1 j1 w1 r1 => by
      refine ⟨fun e3 => ?_, fun e3 => ⟨rfl, ?_⟩⟩
      · have he : e = 3 ∧ t < N := by
          have := r1.2.2.2.2.1.symm.trans e3
          rcases hst with a | ⟨a, b⟩
          · exact a
          · rw [a] at this
            exact absurd this (show ¬ nI 0 = nI 3 by decide)
        obtain ⟨rfl, htN⟩ := he
        have hOW1 := hw.H j1
        have hOT1 := ht.H j1
        obtain ⟨y1, ra, rb, rc, ⟨d0, d1, d2, d3⟩, y2⟩ := hOW1
        refine w_Ru_follow y1 (d0.no rfl) (d1.no rfl) (d2.no rfl) (d3.no rfl) hS1 y2 (by omega) htN r1 (fun S2 j2 r2 => ?_)
        have hS2 := j2.sh hS1
        have h2 : zH lO S S2 := j1.tr (j2.hO rfl)
        have w2 : jN (zI S2 107) 12 1000000000 w := by rw [j2.2 107 rfl]; exact w1
        have y3 : jWO S2 o ra rb rc N kd fa fb := y2.J j2 (d0.no rfl) (d1.no rfl) (d2.no rfl) (d3.no rfl)
        -- it comes to no other act
        have stop : kpt N kd fa fb k cs w (f + 1) h p t = true → ¬ zI S2 106 5 = nI 3 → zI S2 106 3 = nI t → zW 5 m_Ru_keepsAt 29 [some (.ref 106), some (.ref o), some (.ref o2), some (.int (nI k)), some (.int (nI 1)), some (.int (nI i))] [] S2 Q := fun hk1 n5 e3 => by
          have hq := hQ S2 h2 hS2 w2
          rw [hk1] at hq
          refine b_Ru_keepsAt_29 hS2 ⟨fun h9 => absurd h9 n5, fun _ => ⟨y3.1, fun _ => w_Ru_kA_end hS2 (Or.inr nI_0) hq, fun h9 => absurd ?_ h9⟩⟩
          rw [e3, y3.2.1]
          exact nI_lt htN (by omega)
        cases hq : dox (kd t) (fa t) (fb t) h p with
        | none =>
          rw [go_1n hq] at r2
          exact stop (kpt_n hc hq) (by rw [r2.2.2.2.2.1]; show ¬ nI 2 = nI 3; decide) r2.2.2.1
        | some q =>
          rw [go_1s hq] at r2
          by_cases k10 : kd t = 10
          · have em : mvr N (kd t) (fa t) (fb t) t q.1 q.2 = (t, 1, fa t) := by
              unfold mvr
              rw [if_pos k10]
            rw [em] at r2
            exact stop (kpt_e hc (Or.inl k10)) (by rw [r2.2.2.2.2.1]; show ¬ nI 1 = nI 3; decide) r2.2.2.1
          · by_cases k11 : kd t = 11
            · have em : mvr N (kd t) (fa t) (fb t) t q.1 q.2 = (t, 0, 9) := by
                unfold mvr
                rw [if_neg k10, if_pos k11]
              rw [em] at r2
              exact stop (kpt_e hc (Or.inr k11)) (by rw [r2.2.2.2.2.1]; show ¬ nI 0 = nI 3; decide) r2.2.2.1
            · have em : mvr N (kd t) (fa t) (fb t) t q.1 q.2 = (nx (kd t) (fa t) (fb t) t q.1 q.2, if N ≤ nx (kd t) (fa t) (fb t) t q.1 q.2 then 0 else 3, 9) := by
                unfold mvr
                rw [if_neg k10, if_neg k11]
              rw [em] at r2
              have hle := hA t htN q.1 q.2
              rw [kpt_s hc htN hq (by omega)] at hQ
              generalize nx (kd t) (fa t) (fb t) t q.1 q.2 = t' at *
              have go4 : zW 5 m_Ru_keepsAt 4 [some (.ref 106), some (.ref o), some (.ref o2), some (.int (nI k)), some (.int (nI 1)), some (.int (nI i + nI 1))] [] S2 Q := by
                rw [nI_add]
                refine ih (i + 1) (m + 1) t' (if N ≤ t' then 0 else 3) q.1 q.2 hS2 (hw.H h2) (ht.H h2) (by omega) ?_ w2 r2 (fun S' j' hS' w' => hQ S' (h2.tr j') hS' w')
                by_cases hlt : N ≤ t'
                · rw [if_pos hlt]
                  exact Or.inr ⟨rfl, by omega⟩
                · rw [if_neg hlt]
                  exact Or.inl ⟨rfl, by omega⟩
              refine b_Ru_keepsAt_29 hS2 ⟨fun _ => go4, fun h9 => ⟨y3.1, fun h8 => ?_, fun _ => go4⟩⟩
              exfalso
              rw [r2.2.2.2.2.1] at h9
              rw [r2.2.2.1, y3.2.1] at h8
              have h8' : nI t' < nI N := h8
              have hlt : ¬ N ≤ t' := fun h7 => absurd h8' (nI_nlt h7 (by omega))
              rw [if_neg hlt] at h9
              exact h9 rfl
      · have he : t = N := by
          rcases hst with ⟨a, b⟩ | ⟨a, b⟩
          · exact absurd (by rw [r1.2.2.2.2.1, a]) e3
          · exact b
        have := hQ S1 j1 hS1 w1
        rw [kpt_N hc (by omega)] at this
        exact this
    have htk : t ≤ 24 := by omega
    refine b_Ru_keepsAt_4 hS ⟨fun h9 => absurd h9 (nI_nlt (by omega) (by omega)), fun _ => ⟨fun h9 => absurd h9 (by decide), fun _ => ?_⟩⟩
    rw [hr.2.2.1]
    refine ⟨fun h9 => tail (ck_ne (fun e => h9 (by rw [show t = k from e]))) hS zH.rf hwas hr, fun h9 => ?_⟩
    have etk : t = k := nEq (by omega) (by omega) (Classical.not_not.mp h9)
    have ht' := ht
    obtain ⟨t1, ta, tb, rs, t0, ⟨ta1, tb1⟩, ⟨ts1, ts2⟩, t2⟩ := ht'
    refine ⟨t2.1, w_Tk_isTrueOf (w := w) (h := h) (p := p) (sd := 9) t1.2.1 (fun e => ta1.2 (by rw [← e]; exact ts1)) (fun e => tb1.2 (by rw [← e]; exact ts1)) (zmem_big (b := 162) rfl ts2) hS t2 (wfC_flat cs t1.2.2) ⟨hwas, hr.1, hr.2.1, hr.2.2.2.2.2⟩ (fun S1 j1 => ?_)⟩
    have hS1 := j1.sh hS
    have h1 : zH lO S S1 := j1.hs ts1
    have w1 : jN (zI S1 107) 12 1000000000 w := by rw [j1.2 107 (zmemC (by omega) rfl)]; exact hwas
    have r1 : jR S1 (h, p, t, m, e, 9) := by
      unfold jR
      rw [j1.2 106 (zmemC (by omega) rfl), j1.2 108 (zmemC (by omega) rfl), j1.2 109 (zmemC (by omega) rfl)]
      exact hr
    rw [evC_flat cs t1.2.2]
    cases hb : tru (vl w h p 9) cs with
    | false =>
      refine b_Ru_keepsAt_16 hS1 ⟨fun h8 => absurd (by decide) h8, fun _ => ⟨rfl, ?_⟩⟩
      have := hQ S1 h1 hS1 w1
      rw [kpt_f ((ck_eq etk).trans hb)] at this
      exact this
    | true =>
      exact b_Ru_keepsAt_16 hS1 ⟨fun _ => tail ((ck_eq etk).trans hb) hS1 h1 w1 r1, fun h8 => absurd (by decide) h8⟩
