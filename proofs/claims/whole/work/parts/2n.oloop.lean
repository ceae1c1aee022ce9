/-! A TASK's text, the object's reader: its loop over the C, given what a C does -/
theorem om_ev {b : Nat → Nat} {e : Nat} : ∀ (f : Nat) (bb ev ev' cp : Bool) (W : List Nat) (op p : Nat) (o : List (Nat × Nat)), om b e f true bb ev cp W op p o = om b e f true bb ev' cp W op p o
  | 0, _, _, _, _, _, _, _, _ => rfl
  | f + 1, bb, ev, ev', cp, W, op, p, o => by
    rw [om_t (ev := ev), om_t (ev := ev'), om_ev f false ev ev' cp (16 :: W), om_ev f true ev ev' false (17 :: W), om_ev f true ev ev' false (14 :: W)]
theorem fbg_t {b : Nat → Nat} {e p : Nat} : fbg b e p = true ↔ ((hr b e p = 91 ∨ hr b e p = 40) ∨ (tkK b e p = 2 ∨ ((tkW b e p = sV 69 ∨ tkW b e p = sV 61) ∨ ((tkW b e p = sV 63 ∨ tkW b e p = sV 65) ∨ tkW b e p = sV 67)))) := by
  unfold fbg
  simp only [Bool.or_eq_true, Nat.beq_eq]
theorem wx7 {w : Nat} : wix (sW 7) w 0 = - nI 1 ↔ ¬ ((w = sV 69 ∨ w = sV 61) ∨ ((w = sV 63 ∨ w = sV 65) ∨ w = sV 67)) := by
  rw [sW_t.2.2.2]
  show (if w = sV 61 then nI 0 else if w = sV 63 then nI 1 else if w = sV 65 then nI 2 else if w = sV 67 then nI 3 else if w = sV 69 then nI 4 else - nI 1) = - nI 1 ↔ _
  by_cases h0 : w = sV 61
  · rw [if_pos h0]
    exact ⟨fun y => absurd y (nE1 (by omega)), fun y => absurd (Or.inl (Or.inr h0)) y⟩
  · by_cases h1 : w = sV 63
    · rw [if_neg h0, if_pos h1]
      exact ⟨fun y => absurd y (nE1 (by omega)), fun y => absurd (Or.inr (Or.inl (Or.inl h1))) y⟩
    · by_cases h2 : w = sV 65
      · rw [if_neg h0, if_neg h1, if_pos h2]
        exact ⟨fun y => absurd y (nE1 (by omega)), fun y => absurd (Or.inr (Or.inl (Or.inr h2))) y⟩
      · by_cases h3 : w = sV 67
        · rw [if_neg h0, if_neg h1, if_neg h2, if_pos h3]
          exact ⟨fun y => absurd y (nE1 (by omega)), fun y => absurd (Or.inr (Or.inr h3)) y⟩
        · by_cases h4 : w = sV 69
          · rw [if_neg h0, if_neg h1, if_neg h2, if_neg h3, if_pos h4]
            exact ⟨fun y => absurd y (nE1 (by omega)), fun y => absurd (Or.inl (Or.inl h4)) y⟩
          · rw [if_neg h0, if_neg h1, if_neg h2, if_neg h3, if_neg h4]
            refine ⟨fun _ y => ?_, fun _ => rfl⟩
            rcases y with (y | y) | (y | y) | y
            · exact h4 y
            · exact h0 y
            · exact h1 y
            · exact h2 y
            · exact h3 y
theorem sx9 {c : Nat} : six (sG 9) (sB 9).length 0 c = - nI 1 ↔ ¬ (c = 91 ∨ c = 40) := by
  obtain ⟨-, -, ⟨e, g0, g1⟩⟩ := sG_t
  rw [e]
  show (if c = sG 9 0 then nI 0 else if c = sG 9 1 then nI 1 else - nI 1) = - nI 1 ↔ _
  rw [g0, g1]
  by_cases h0 : c = 40
  · rw [if_pos h0]
    exact ⟨fun y => absurd y (nE1 (by omega)), fun y => absurd (Or.inr h0) y⟩
  · by_cases h1 : c = 91
    · rw [if_neg h0, if_pos h1]
      exact ⟨fun y => absurd y (nE1 (by omega)), fun y => absurd (Or.inl h1) y⟩
    · rw [if_neg h0, if_neg h1]
      refine ⟨fun _ y => ?_, fun _ => rfl⟩
      rcases y with y | y
      · exact h1 y
      · exact h0 y
theorem w_TR_faultOfOneMore {b : Nat → Nat} {e p : Nat} {S : ZSt} {Q : ZOut → ZSt → Prop} (hS : zSh S) (hC : zCst S) (hx : jTx S b e) (hp : p ≤ e) (ht : jTo S b e p) (hQ : Q (.inl (some (.int (nI (fom b e p))))) S) : zC m_TR_faultOfOneMore [.ref 76] S Q := by
  have hc : zc S 76 = 4 := hS.1 76 (by omega)
  have k3 := tkK_le (b := b) (e := e) (p := p)
  have v5 := tkV_le (b := b) (e := e) (p := p)
  have I := fbg_t (b := b) (e := e) (p := p)
  refine b_TR_faultOfOneMore hS ⟨hc, ?_⟩
  rw [ht.2.2.1, ht.2.2.2]
  by_cases k2 : tkK b e p = 2
  · refine ⟨fun h9 => absurd (by rw [k2]) h9, fun _ => ⟨hc, fun h9 => ?_, fun h9 => ?_⟩⟩
    · have F : fom b e p = 3 := by
        unfold fom
        rw [if_pos k2, if_pos ((nI_leI (by omega) (by omega)).mp h9)]
      rw [F] at hQ
      exact hQ
    · have F : fom b e p = 2 := by
        unfold fom
        rw [if_pos k2, if_neg (fun y => h9 (nI_le y (by omega)))]
      rw [F] at hQ
      exact hQ
  · have F3 : fbg b e p = true → fom b e p = 3 := fun y => by
      unfold fom
      rw [if_neg k2, if_pos y]
    have F1 : ¬ fbg b e p = true → fom b e p = 1 := fun y => by
      unfold fom
      rw [if_neg k2, if_neg y]
    refine ⟨fun _ => ⟨hc, w_Ta_wordAmong rfl hS hC hx hp ht (b_TR_faultOfOneMore_15 hS ⟨fun h9 => ⟨fun y => absurd y (by decide), fun _ => ?_⟩, fun h9 => ⟨hc, w_Ta_signAmong rfl hS hC hx hp ht (b_TR_faultOfOneMore_20 hS ⟨fun g9 => ⟨fun _ => ?_, fun y => absurd (by decide) y⟩, fun g9 => ⟨fun y => absurd y (by decide), fun _ => ?_⟩⟩)⟩⟩)⟩, fun h9 => absurd (nEq (by omega) (by omega) (Classical.not_not.mp h9)) k2⟩
    · rw [F3 (I.mpr (Or.inr (Or.inr (Classical.byContradiction (fun y => h9 (wx7.mpr y))))))] at hQ
      exact hQ
    · have a1 := wx7.mp (Classical.not_not.mp h9)
      have a2 := sx9.mp g9
      rw [F1 (fun y => by
        rcases I.mp y with z | z | z
        · exact a2 z
        · exact k2 z
        · exact a1 z)] at hQ
      exact hQ
    · rw [F3 (I.mpr (Or.inl (Classical.byContradiction (fun y => g9 (sx9.mpr y)))))] at hQ
      exact hQ
/-- a value is awaited, whatever the flags were -/
theorem w_TR_await1 {S : ZSt} {Q : ZOut → ZSt → Prop} (hS : zSh S) (hQ : ∀ ev S', zJ [86, 87, 88, 89] S S' → (∀ j, j < 6 ∨ 9 < j → zI S' 86 j = zI S 86 j) → (∀ c, c ≠ 86 → zI S' c = zI S c) → jFg S' true true ev false → Q (.inl none) S') : zC m_TR_awaitValue [.ref 86, .int (nI 1)] S Q := by
  refine b_TR_awaitValue hS ⟨by decide, by decide, fun h9 => absurd h9 (by decide), fun _ => ⟨by decide, hQ (!decide (zI S 86 8 = 0)) _ (((zJ.rf.I rfl).I rfl).I rfl) (fun j hj => by rw [zI_o (by omega), zI_o (by omega), zI_o (by omega)]) (fun c hc => by rw [zI_ne _ _ hc, zI_ne _ _ hc, zI_ne _ _ hc]) ⟨⟨?_, ?_⟩, ?_, ?_⟩⟩⟩
  · exact Eq.trans (zI_o (by omega)) (Eq.trans (zI_o (by omega)) zI_s)
  · exact Eq.trans (zI_o (by omega)) zI_s
  · rw [zI_o (by omega), zI_o (by omega), zI_o (by omega)]
    by_cases h : zI S 86 8 = 0
    · rw [decide_eq_true h]
      exact ⟨fun _ => rfl, fun _ => h⟩
    · rw [decide_eq_false h]
      exact ⟨fun y => absurd y h, fun y => by cases y⟩
  · exact zI_s
/-- what the reading of a C has to do -/
def rcOK : Prop := ∀ {b : Nat → Nat} {e p : Nat} {O : List (Nat × Nat)} {S : ZSt} {Q : ZOut → ZSt → Prop}, zSh S → zCst S → jTx S b e → p ≤ e → jTo S b e p → jWa S [] 0 → jOu S O → O.length ≤ p → (∀ k t, om b e 401 true true false false [] 0 p [] = .inl (k, t) → ∀ S', zTj S S' → zI S' 76 7 = nI k → zI S' 76 8 = nI t → Q (.inl (some (.int (nI 0)))) S') → (∀ q oo, om b e 401 true true false false [] 0 p [] = .inr (q, oo) → ∀ S', zTj S S' → jTo S' b e q → jWa S' [] 0 → jOu S' (O ++ oo) → zI S' 76 8 = zI S 76 8 → Q (.inl (some (.int (nI 1)))) S') → zC m_TR_readsCondition [.ref 86, .ref 76] S Q
theorem w_TR_r11 (rc : rcOK) {b : Nat → Nat} {e : Nat} {Q : ZOut → ZSt → Prop} : ∀ (f p : Nat) (cs : List (List (Nat × Nat))) {S : ZSt}, f + cs.length = 13 → 0 < f → zSh S → zCst S → jTx S b e → p ≤ e → jTo S b e p → jWa S [] 0 → jOu S (flat cs) → (flat cs).length ≤ p → (∀ k t, tlp b e f p cs = .inl (k, t) → ∀ S', zTj S S' → zI S' 76 7 = nI k → zI S' 76 8 = nI t → Q (.inl (some (.int (nI 0)))) S') → (∀ cs', tlp b e f p cs = .inr cs' → ∀ S', zTj S S' → jOu S' (flat cs') → zI S' 76 8 = zI S 76 8 → Q (.inl (some (.int (nI 1)))) S') → zW 9 m_TR_reads 11 [some (.ref 86), some (.ref 76), some (.int (nI cs.length))] [] S Q
  | 0, _, _, _, _, h0, _, _, _, _, _, _, _, _, _, _ => absurd h0 (by omega)
  | f + 1, p, cs, S, hn, _, hS, hC, hx, hp, ht, hw, ho, hl, bad, ok => by
    have he := hx.1
    have k3 := tkK_le (b := b) (e := e) (p := p)
    refine b_TR_reads_11 hS ⟨fun h9 => absurd ((nI_ltI (by omega) (by omega)).mp h9) (by omega), fun _ => ?_⟩
    rw [ht.2.2.1]
    by_cases k0 : tkK b e p = 0
    · refine ⟨fun h9 => absurd (by rw [k0]; rfl) h9, fun _ => ⟨fun h9 => ⟨by decide, ?_⟩, fun h9 => w_Ta_refuse hS ?_⟩⟩
      · have n0 : cs.length ≠ 0 := fun y => by
          rw [y, ← nI_0] at h9
          exact absurd ((nI_ltI (by omega) (by omega)).mp h9) (by omega)
        exact ok cs (by rw [tlp_s, if_pos k0, if_neg n0]) S zTj.rf ho rfl
      · have n0 : cs.length = 0 := Classical.byContradiction (fun y => h9 (by rw [← nI_0]; exact nI_lt (by omega) (by omega)))
        rw [ht.1]
        exact b_TR_reads_22 (sh76 hS) ⟨fun _ => ⟨by decide, bad 1 _ (by rw [tlp_s, if_pos k0, if_pos n0]) _ zTj.rf.bad (by rw [zI_o (by omega), zI_s]) zI_s⟩, fun y => absurd rfl y⟩
    · have nk : ¬ nI (tkK b e p) = 0 := fun y => by
        rw [← nI_0] at y
        exact k0 (nEq (by omega) (by omega) y)
      refine ⟨fun _ => ⟨fun h9 => ?_, fun h9 => ?_⟩, fun h9 => absurd nk h9⟩
      · have n12 : cs.length ≠ 12 := fun y => h9 (by rw [y])
        refine rc hS hC hx hp ht hw ho hl (fun k t hom S' j a7 a8 => b_TR_reads_38 (j.1.sh hS) ⟨fun y => absurd rfl y, fun _ => ⟨by decide, bad k t (tlp_x k0 n12 hom) S' j a7 a8⟩⟩) (fun q oo hom S' j t' w' o' a8 => b_TR_reads_38 (j.1.sh hS) ⟨fun _ => ?_, fun y => absurd (by decide) y⟩)
        obtain ⟨o1, rfl, -, lq, qe, pq⟩ := om_i 401 true true false false [] 0 p [] (iOm_0 hl) hp hom
        have et := tlp_n (f := f) k0 n12 hom
        have el : (cs ++ [o1]).length = cs.length + 1 := List.length_append
        rw [et] at bad ok
        have := w_TR_r11 rc f q (cs ++ [o1]) (S := S') (by omega) (by omega) (j.1.sh hS) (hC.J j.1 rfl) (hx.j j) qe t' w' (by rw [flat_a]; exact o') (by rw [flat_a, List.length_append, List.length_append]; show (flat cs).length + (o1.length + 1) ≤ q; omega) (fun k t h S2 j2 => bad k t h S2 (j.tr j2)) (fun cs' h S2 j2 o2 b8 => ok cs' h S2 (j.tr j2) o2 (b8.trans a8))
        rw [el, ← nI_add] at this
        exact this
      · have n12 : cs.length = 12 := nEq (by omega) (by omega) (Classical.not_not.mp h9)
        refine w_TR_faultOfOneMore hS hC hx hp ht (b_TR_reads_33 hS (w_Ta_refuse hS ?_))
        rw [ht.1]
        exact b_TR_reads_34 (sh76 hS) ⟨by decide, bad _ _ (tlp_12 k0 n12) _ zTj.rf.bad (by rw [zI_o (by omega), zI_s]) zI_s⟩
theorem w_TR_reads (rc : rcOK) {b : Nat → Nat} {e : Nat} {S : ZSt} {Q : ZOut → ZSt → Prop} (hS : zSh S) (hC : zCst S) (hx : jTx S b e) (ht : jTo S b e 0) (bad : ∀ k t, tlp b e 13 0 [] = .inl (k, t) → ∀ S', zTj S S' → zI S' 76 7 = nI k → zI S' 76 8 = nI t → Q (.inl (some (.int (nI 0)))) S') (ok : ∀ cs', tlp b e 13 0 [] = .inr cs' → ∀ S', zTj S S' → jOu S' (flat cs') → zI S' 76 8 = zI S 76 8 → Q (.inl (some (.int (nI 1)))) S') : zC m_TR_reads [.ref 86, .ref 76] S Q := by
  have j1 : zJ [86, 87, 88, 89] S (zsI (zsI (zsI S 86 2 (nI 0)) 86 4 (nI 0)) 86 5 (nI 0)) := ((zJ.rf.I rfl).I rfl).I rfl
  have e76 : zI (zsI (zsI (zsI S 86 2 (nI 0)) 86 4 (nI 0)) 86 5 (nI 0)) 76 = zI S 76 := j1.2 76 rfl
  refine b_TR_reads hS (w_TR_r11 rc 13 0 [] rfl (by omega) (j1.sh hS) (hC.J j1 rfl) (hx.j j1.j) (Nat.zero_le _) (ht.c e76) ⟨?_, zI_s, trivial⟩ ⟨?_, fun i hi => absurd hi (Nat.not_lt_zero i)⟩ (Nat.le_refl _) (fun k t h S' j => bad k t h S' (j1.j.tr j)) (fun cs' h S' j o' a8 => ok cs' h S' (j1.j.tr j) o' (a8.trans (by rw [e76]))))
  · exact Eq.trans (zI_o (by omega)) zI_s
  · exact Eq.trans (zI_o (by omega)) (Eq.trans (zI_o (by omega)) zI_s)
