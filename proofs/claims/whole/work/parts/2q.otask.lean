/-! A TASK's text, the object: the call, given what the reading of a C does -/
theorem tlp_l {b : Nat → Nat} {e : Nat} {cs' : List (List (Nat × Nat))} : ∀ (f p : Nat) (cs : List (List (Nat × Nat))), p ≤ e → (flat cs).length ≤ p → tlp b e f p cs = .inr cs' → (flat cs').length ≤ e
  | 0, _, _, _, _, h => by cases h
  | f + 1, p, cs, hp, hl, h => by
    rw [tlp_s] at h
    by_cases k0 : tkK b e p = 0
    · rw [if_pos k0] at h
      split at h
      · cases h
      · cases h
        omega
    · rw [if_neg k0] at h
      by_cases n : cs.length = 12
      · rw [if_pos n] at h
        cases h
      · rw [if_neg n] at h
        cases ho : om b e 401 true true false false [] 0 p [] with
        | inl x =>
          rw [ho] at h
          cases h
        | inr y =>
          obtain ⟨q, oo⟩ := y
          obtain ⟨o1, rfl, -, lq, qe, pq⟩ := om_i 401 true true false false [] 0 p [] (iOm_0 hl) hp ho
          rw [ho] at h
          have h' : tlp b e f q (cs ++ [(o1 ++ [(15, 0)]).dropLast]) = .inr cs' := h
          rw [List.dropLast_concat] at h'
          exact tlp_l f q _ qe (by rw [flat_a, List.length_append, List.length_append]; show (flat cs).length + (o1.length + 1) ≤ q; omega) h'
theorem tn91 : ∀ i, i < 6 → zTr 91 i = none := by decide
theorem w_N_task (rc : rcOK) {len m tc : Nat} {b : Nat → Nat} {S : ZSt} {Q : ZOut → ZSt → Prop} (hS : zSh S) (hC : zCst S) (e1 : zI S 76 1 = nI len) (hl : len ≤ 400) (hm : m ≤ len) (hb : ∀ j, j < m → b j < 256 ∧ zI S 77 j = nI (b j)) (h7 : zI S 75 7 = nI tc) (htc : tc ≤ 6)
    (full : tc = 6 → ∀ S', zJ [76] S S' → zI S' 76 1 = nI 0 → zI S' 76 8 = - nI 1 → Q (.inl (some (.int (- nI 1)))) S')
    (bad : tc < 6 → ∀ k t, tlp b m 13 0 [] = .inl (k, t) → ∀ S', zJ [76, 86, 87, 88, 89] S S' → zI S' 76 1 = nI 0 → zI S' 76 8 = nI t → Q (.inl (some (.int (nI k - nI 10)))) S')
    (ok : tc < 6 → ∀ cs, tlp b m 13 0 [] = .inr cs → wfT cs → (flat cs).length ≤ 400 → ∀ Sx, zJ [76, 86, 87, 88, 89] S Sx → zI Sx 76 1 = nI 0 → zI Sx 76 8 = - nI 1 → ∀ S4, jNt Sx S4 (flat cs) → Q (.inl (some (.int (nI tc)))) (zsI (zsR S4 91 tc (some (zx Sx))) 75 7 (nI (tc + 1)))) : zC m_N_task [.ref 75, .int (nI m)] S Q := by
  refine b_N_task hS ?_
  rw [e1]
  refine w_N_isNotV (by omega) hS (fun _ => b_N_task_7 hS (b_N_refuseIf hS ⟨fun _ => b_N_task_8 hS ?_, fun h9 => absurd rfl h9⟩)) (fun h9 => absurd rfl (h9 m hm))
  refine w_Ta_begin hS (by omega) hb (fun S1 j1 a1 a7 a8 x1 t1 => b_N_task_12 (j1.sh hS) ?_)
  have hS1 := j1.sh hS
  have e7 : zI S1 75 7 = nI tc := by
    rw [j1.2 75 rfl]
    exact h7
  rw [e7]
  refine ⟨fun h9 => ?_, fun h9 => full (Classical.byContradiction (fun z => h9 (nI_lt (by omega) (by omega)))) S1 j1 a1 a8⟩
  have h6 : tc < 6 := (nI_ltI (by omega) (by omega)).mp h9
  refine w_TR_reads rc hS1 (hC.J j1 rfl) x1 t1 (fun k t hv S2 j2 c7 c8 => b_N_task_23 (j2.1.sh hS1) ⟨fun h8 => absurd rfl h8, fun _ => b_Ta_faultAnswer (j2.1.sh hS1) (b_N_task_27 (j2.1.sh hS1) ?_)⟩) (fun cs hv S2 j2 o2 c8 => b_N_task_23 (j2.1.sh hS1) ⟨fun _ => ?_, fun h8 => absurd (by decide) h8⟩)
  · rw [c7]
    exact bad h6 k t hv S2 (zJ.tr (l := [76, 86, 87, 88, 89]) ⟨j1.1, fun c hc => j1.2 c (zsub_of rfl c hc)⟩ j2.1) ((j2.2 1 (by omega)).trans a1) c8
  · have hS2 := j2.1.sh hS1
    have J2 : zJ [76, 86, 87, 88, 89] S S2 := zJ.tr (l := [76, 86, 87, 88, 89]) ⟨j1.1, fun c hc => j1.2 c (zsub_of rfl c hc)⟩ j2.1
    have ll : (flat cs).length ≤ m := tlp_l 13 0 [] (Nat.zero_le _) (Nat.le_refl _) hv
    have e7' : zI S2 75 7 = nI tc := by
      rw [j2.1.2 75 rfl]
      exact e7
    have hx : 162 ≤ zx S2 := hS2.2.2.2
    rw [e7']
    refine w_TR_made hS2 o2 (by omega) (fun S4 ad => b_N_task_35 (ad.1.1.sh hS2) ?_)
    have hS4 := ad.1.1.sh hS2
    have e75 : zI S4 75 7 = nI tc := by
      rw [(ad.1.1.2.1 75 (by omega)).1]
      exact e7'
    have n6 : zn S4 91 = 6 := hS4.2.1 91 (by omega) (by omega)
    rw [zcl9 (by omega), e75, nI_add, pk_sub (by omega), show tc + 1 - 1 = tc by omega, n6]
    exact ⟨tn91 tc h6, hS4.1 91 (by omega), ad.2.1.1, zin h6 (by omega), ok h6 cs hv (tlp_i (by omega) 13 0 [] (Nat.zero_le _) (Nat.le_refl _) (fun c hc => by cases hc) (by show 0 ≤ 12; omega) hv) (by omega) S2 J2 ((j2.2 1 (by omega)).trans a1) (c8.trans a8) S4 ad⟩
