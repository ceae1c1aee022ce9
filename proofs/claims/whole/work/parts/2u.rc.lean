/-! A C is read: the loop, turn by turn -/
theorem w_TR_rc8 {b : Nat → Nat} {e : Nat} {O : List (Nat × Nat)} {Q : ZOut → ZSt → Prop} : ∀ (f : Nat) (lv bb ev cp : Bool) (W : List Nat) (op p : Nat) (o : List (Nat × Nat)) (i : Nat) {S : ZSt}, e + 1 ≤ f + p → i ≤ p → zSh S → zCst S → jTx S b e → omS b e O S lv bb ev cp W op p o → zI S 86 10 = nI 0 → (∀ k t, om b e f lv bb ev cp W op p o = .inl (k, t) → ∀ S', zTj S S' → zI S' 76 7 = nI k → zI S' 76 8 = nI t → Q (.inl (some (.int (nI 0)))) S') → (∀ q oo, om b e f lv bb ev cp W op p o = .inr (q, oo) → ∀ S', zTj S S' → jTo S' b e q → jWa S' [] 0 → jOu S' (O ++ oo) → zI S' 76 8 = zI S 76 8 → Q (.inl (some (.int (nI 1)))) S') → zW 8 m_TR_readsCondition 8 [some (.ref 86), some (.ref 76), some (.int (nI i))] [] S Q
  | 0, _, _, _, _, _, _, p, _, _, S, hf, _, _, _, _, h, _, _, _ => by
    have := h.1.2
    omega
  | f + 1, lv, bb, ev, cp, W, op, p, o, i, S, hf, hi, hS, hC, hx, h, h10, bad, ok => by
    have hp := h.1.2
    have he := hx.1
    have fl := h.2.1.1
    refine b_TR_readsCondition_8 hS ⟨fun h9 => absurd h9 (nI_nlt (by omega) (by omega)), fun _ => ?_⟩
    rw [h10]
    refine ⟨fun h9 => absurd (by decide) h9, fun _ => ⟨fun b6 => ?_, fun b6 => ?_⟩⟩
    · have hl : lv = false := fl.b6.mp b6
      subst hl
      refine w_TR_readsSign hS hC hx h (fun k t hom S' j a7 a8 => b_TR_readsCondition_25 (j.1.sh hS) ⟨fun h9 => absurd rfl h9, fun _ => ⟨by decide, bad k t (hom f) S' j a7 a8⟩⟩) (fun q oo hom lt qe S' j t' w' o' a8 a10 => b_TR_readsCondition_25 (j.1.sh hS) ⟨fun _ => ?_, fun h9 => absurd (by decide) h9⟩) (fun lv' bb' ev' cp' W' op' p' o' hom lt S' j h' a8 a10 => b_TR_readsCondition_25 (j.1.sh hS) ⟨fun _ => ?_, fun h9 => absurd (by decide) h9⟩)
      · have R : Q (.inl (some (.int (nI 1)))) S' := ok q oo (hom f) S' j t' w' o' a8
        refine b_TR_readsCondition_8 (j.1.sh hS) ?_
        rw [a10]
        exact ⟨fun _ => ⟨fun _ => ⟨by decide, R⟩, fun h9 => absurd (by decide) h9⟩, fun _ => ⟨fun _ => ⟨fun _ => ⟨by decide, R⟩, fun h9 => absurd (by decide) h9⟩, fun h9 => absurd (by decide) h9⟩⟩
      · rw [nI_add]
        rw [hom f] at bad ok
        exact w_TR_rc8 f lv' bb' ev' cp' W' op' p' o' (i + 1) (by omega) (by omega) (j.1.sh hS) (hC.J j.1 rfl) (hx.j j) h' (a10.trans h10) (fun k t g S2 j2 => bad k t g S2 (j.tr j2)) (fun q oo g S2 j2 t2 w2 o2 b8 => ok q oo g S2 (j.tr j2) t2 w2 o2 (b8.trans a8))
    · have hl : lv = true := by
        cases hv : lv with
        | true => rfl
        | false => exact absurd (fl.b6.mpr hv) b6
      subst hl
      refine w_TR_readsValue hS hC hx h (fun k t hom S' j a7 a8 => b_TR_readsCondition_20 (j.1.sh hS) ⟨fun h9 => absurd rfl h9, fun _ => ⟨by decide, bad k t (hom f) S' j a7 a8⟩⟩) (fun lv' bb' ev' cp' W' op' p' o' hom lt S' j h' a8 a10 => b_TR_readsCondition_20 (j.1.sh hS) ⟨fun _ => ?_, fun h9 => absurd (by decide) h9⟩)
      rw [nI_add]
      rw [hom f] at bad ok
      exact w_TR_rc8 f lv' bb' ev' cp' W' op' p' o' (i + 1) (by omega) (by omega) (j.1.sh hS) (hC.J j.1 rfl) (hx.j j) h' (a10.trans h10) (fun k t g S2 j2 => bad k t g S2 (j.tr j2)) (fun q oo g S2 j2 t2 w2 o2 b8 => ok q oo g S2 (j.tr j2) t2 w2 o2 (b8.trans a8))
theorem rcok : rcOK := by
  intro b e p O S Q hS hC hx hp ht hw ho hl bad ok
  have he := hx.1
  have j1 : zJ [86, 87, 88, 89] S (zsI S 86 10 (nI 0)) := zJ.rf.I rfl
  have hS1 := j1.sh hS
  refine b_TR_readsCondition hS ⟨by decide, w_TR_await1 hS1 (fun ev S2 j2 a2 c2 fl => b_TR_readsCondition_6 (j2.sh hS1) ?_)⟩
  have J := j1.tr j2
  rw [om_ev 401 true false ev] at bad ok
  refine w_TR_rc8 401 true true ev false [] 0 p [] 0 (by omega) (Nat.zero_le _) (J.sh hS) (hC.J J rfl) (hx.j J.j) ⟨⟨ht.c (J.2 76 rfl), hp⟩, ⟨fl, hw.c ?_ ?_ ?_⟩, ?_, iOm_0 hl⟩ ?_ (fun k t g S3 j3 => bad k t g S3 (J.j.tr j3)) (fun q oo g S3 j3 t3 w3 o3 b8 => ok q oo g S3 (J.j.tr j3) t3 w3 o3 (b8.trans (by rw [J.2 76 rfl])))
  · rw [a2 4 (by omega), zI_o (by omega)]
  · rw [a2 5 (by omega), zI_o (by omega)]
  · rw [c2 89 (by omega), zI_ne _ _ (by omega)]
  · rw [List.append_nil]
    exact ho.c (by rw [a2 2 (by omega), zI_o (by omega)]) (by rw [c2 87 (by omega), zI_ne _ _ (by omega)]) (by rw [c2 88 (by omega), zI_ne _ _ (by omega)])
  · rw [a2 10 (by omega), zI_s]
