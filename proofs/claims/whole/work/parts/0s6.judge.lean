/-! Ways asked for: alike -/
def fbS (ok : Nat → Prop) (n : Nat) (r : Int32) : Prop := (r = - nI 1 ∧ ∀ k, k < n → ok k) ∨ ∃ k, k < n ∧ r = nI k ∧ ¬ ok k ∧ ∀ j, j < k → ok j
theorem fbS_u {ok : Nat → Prop} {n : Nat} {r r' : Int32} (h : fbS ok n r) (h' : fbS ok n r') : r = r' := by
  rcases h with ⟨e, a⟩ | ⟨k, hk, e, b, c⟩
  · rcases h' with ⟨e', a'⟩ | ⟨k', hk', e', b', c'⟩
    · rw [e, e']
    · exact absurd (a k' hk') b'
  · rcases h' with ⟨e', a'⟩ | ⟨k', hk', e', b', c'⟩
    · exact absurd (a' k hk) b
    · rcases Nat.lt_trichotomy k k' with h1 | h1 | h1
      · exact absurd (c' k h1) b
      · rw [e, e', h1]
      · exact absurd (c k' h1) b'
/-- the valley, as numbers -/
def zVl (f : Nat → Int32) (x0 x1 x2 x3 x4 x5 : Nat) : Prop := (f 0 = nI x0 ∧ 1 ≤ x0 ∧ x0 ≤ 12) ∧ (f 1 = nI x1 ∧ x1 ≤ 24) ∧ (f 2 = nI x2 ∧ 1 ≤ x2 ∧ x2 ≤ 24) ∧ (f 3 = nI x3 ∧ x3 ≤ 3) ∧ (f 4 = nI x4 ∧ x4 ≤ 1) ∧ (f 5 = nI x5 ∧ x5 ≤ 1)
theorem jVal.vl {f : Nat → Int32} (h : jVal f) : ∃ x0 x1 x2 x3 x4 x5, zVl f x0 x1 x2 x3 x4 x5 := by
  obtain ⟨⟨x0, a, b, c⟩, ⟨x1, d, e, f⟩, ⟨x2, g, h, i⟩, ⟨x3, j, k, l⟩, ⟨x4, m, n, o⟩, ⟨x5, p, q, r⟩⟩ := h
  exact ⟨x0, x1, x2, x3, x4, x5, ⟨c, a, b⟩, ⟨f, e⟩, ⟨i, g, h⟩, ⟨l, k⟩, ⟨o, n⟩, ⟨r, q⟩⟩
theorem jA.vl {g f : Nat → Int32} (h : jA g f) : ∃ x0 x1 x2 x3 x4 x5, zVl f x0 x1 x2 x3 x4 x5 ∧ zVl g x0 x1 x2 x3 x4 x5 := by
  obtain ⟨x0, x1, x2, x3, x4, x5, hv⟩ := h.2.vl
  refine ⟨x0, x1, x2, x3, x4, x5, hv, ?_⟩
  unfold zVl
  rw [h.1 0 (by omega), h.1 1 (by omega), h.1 2 (by omega), h.1 3 (by omega), h.1 4 (by omega), h.1 5 (by omega)]
  exact hv
def okW (x0 x1 x2 x3 x4 x5 n : Nat) (kd fa fb : Nat → Nat) (k : Nat) : Prop := k < x2 ∧ Alw x0 x1 x3 x4 x5 n (kd k) (fa k) (fb k)
theorem w_Wa_firstBarred_2 {o ra rb rc n x0 x1 x2 x3 x4 x5 : Nat} {kd fa fb : Nat → Nat} {S : ZSt} {Q : ZOut → ZSt → Prop} (hS : zSh S) (hW : zWy n kd fa fb) (hw : jWO S o ra rb rc n kd fa fb) (hv : zVl (zI S 93) x0 x1 x2 x3 x4 x5) (hQ : ∀ r, fbS (okW x0 x1 x2 x3 x4 x5 n kd fa fb) n r → Q (.inl (some (.int r))) S) :
    ∀ (f k : Nat), f + k = n → (∀ j, j < k → okW x0 x1 x2 x3 x4 x5 n kd fa fb j) → zW 2 m_Wa_firstBarred 2 [some (.ref o), some (.ref 93), some (.int (nI k))] [] S Q
  | 0, k, hf, hk => by
    have w2 := hw.2.1
    obtain rfl : k = n := by omega
    refine b_Wa_firstBarred_2 hS ?_
    rw [w2]
    exact ⟨hw.1, fun _ => hQ _ (Or.inl ⟨rfl, hk⟩), fun h9 => absurd (nI_le (Nat.le_refl _) (by have := hW.2.1; omega)) h9⟩
  | f + 1, k, hf, hk => by
    have w2 := hw.2.1
    have hn := hW.2.1
    obtain ⟨⟨v0, a0, b0⟩, ⟨v1, b1⟩, ⟨v2, a2, b2⟩, ⟨v3, b3⟩, ⟨v4, b4⟩, ⟨v5, b5⟩⟩ := id hv
    refine b_Wa_firstBarred_2 hS ?_
    rw [w2, v2]
    refine ⟨hw.1, fun h9 => absurd h9 (nI_ge (by omega) (by omega)), fun _ => ⟨fun h9 => absurd h9 (nI_ge (by omega) (by omega)), fun _ => ⟨zinl rfl, fun h9 => ?_, fun h9 => ⟨hw.1, ?_⟩⟩⟩⟩
    · have h8 := (nI_leI (by omega) (by omega)).mp h9
      exact hQ _ (Or.inr ⟨k, by omega, rfl, fun h7 => by have := h7.1; omega, hk⟩)
    · have h8 : k < x2 := by
        by_cases h : k < x2
        · exact h
        · exact absurd (nI_le (by omega) (by omega)) h9
      refine w_Wa_allows hS hW hw (by omega) v0 v1 v3 v4 v5 b0 b1 b3 b4 b5 (fun h1 => b_Wa_firstBarred_18 hS ⟨fun _ => ?_, fun h7 => absurd (by decide) h7⟩) (fun h1 => b_Wa_firstBarred_18 hS ⟨fun h7 => absurd (by decide) h7, fun _ => hQ _ (Or.inr ⟨k, by omega, rfl, fun h7 => h1 h7.2, hk⟩)⟩)
      rw [nI_add]
      refine w_Wa_firstBarred_2 hS hW hw hv hQ f (k + 1) (by omega) (fun j hj => ?_)
      by_cases e : j = k
      · rw [e]
        exact ⟨h8, h1⟩
      · exact hk j (by omega)
theorem w_Wa_firstBarred {o ra rb rc n x0 x1 x2 x3 x4 x5 : Nat} {kd fa fb : Nat → Nat} {S : ZSt} {Q : ZOut → ZSt → Prop} (hS : zSh S) (hW : zWy n kd fa fb) (hw : jWO S o ra rb rc n kd fa fb) (hv : zVl (zI S 93) x0 x1 x2 x3 x4 x5) (hQ : ∀ r, fbS (okW x0 x1 x2 x3 x4 x5 n kd fa fb) n r → Q (.inl (some (.int r))) S) : zC m_Wa_firstBarred [.ref o, .ref 93] S Q :=
  b_Wa_firstBarred hS (w_Wa_firstBarred_2 hS hW hw hv hQ n 0 (by omega) (fun j hj => by omega))
theorem w_M_judged_2 {q n x0 x1 x2 x3 x4 x5 : Nat} {kd fa fb : Nat → Nat} {S : ZSt} {Q : ZOut → ZSt → Prop} (hS : zSh S) (hW : zWy n kd fa fb) (hw : jWM S q n kd fa fb) (hq : q ≤ 6) (hv : zVl (zI S 132) x0 x1 x2 x3 x4 x5) (hQ : ∀ r, fbS (okW x0 x1 x2 x3 x4 x5 n kd fa fb) n r → Q (.inl (some (.int r))) S) :
    ∀ (f k : Nat), f + k = n → (∀ j, j < k → okW x0 x1 x2 x3 x4 x5 n kd fa fb j) → zW 2 m_M_judged 2 [some (.ref 130), some (.int (nI q)), some (.int (nI k))] [] S Q
  | 0, k, hf, hk => by
    have w2 := hw.1
    obtain rfl : k = n := by omega
    refine b_M_judged_2 hS ?_
    rw [zcl9 (by omega), w2]
    exact ⟨zin (by omega) (by omega), fun _ => hQ _ (Or.inl ⟨rfl, hk⟩), fun h9 => absurd (nI_le (Nat.le_refl _) (by have := hW.2.1; omega)) h9⟩
  | f + 1, k, hf, hk => by
    have w2 := hw.1
    have hn := hW.2.1
    obtain ⟨⟨v0, a0, b0⟩, ⟨v1, b1⟩, ⟨v2, a2, b2⟩, ⟨v3, b3⟩, ⟨v4, b4⟩, ⟨v5, b5⟩⟩ := id hv
    refine b_M_judged_2 hS ?_
    rw [zcl9 (by omega), w2, v2]
    refine ⟨zin (by omega) (by omega), fun h9 => absurd h9 (nI_ge (by omega) (by omega)), fun _ => ⟨zinl rfl, fun h9 => ?_, fun h9 => ?_⟩⟩
    · have h8 := (nI_leI (by omega) (by omega)).mp h9
      exact hQ _ (Or.inr ⟨k, by omega, rfl, fun h7 => by have := h7.1; omega, hk⟩)
    · have h8 : k < x2 := by
        by_cases h : k < x2
        · exact h
        · exact absurd (nI_le (by omega) (by omega)) h9
      refine w_M_mayAct hS hW hw hq (by omega) v0 v1 v3 v4 v5 b0 b1 b3 b4 b5 (fun h1 => b_M_judged_18 hS ⟨fun _ => ?_, fun h7 => absurd (by decide) h7⟩) (fun h1 => b_M_judged_18 hS ⟨fun h7 => absurd (by decide) h7, fun _ => hQ _ (Or.inr ⟨k, by omega, rfl, fun h7 => h1 h7.2, hk⟩)⟩)
      rw [nI_add]
      refine w_M_judged_2 hS hW hw hq hv hQ f (k + 1) (by omega) (fun j hj => ?_)
      by_cases e : j = k
      · rw [e]
        exact ⟨h8, h1⟩
      · exact hk j (by omega)
theorem w_M_judged {q n x0 x1 x2 x3 x4 x5 : Nat} {kd fa fb : Nat → Nat} {S : ZSt} {Q : ZOut → ZSt → Prop} (hS : zSh S) (hW : zWy n kd fa fb) (hw : jWM S q n kd fa fb) (hq : q ≤ 6) (hv : zVl (zI S 132) x0 x1 x2 x3 x4 x5) (hQ : ∀ r, fbS (okW x0 x1 x2 x3 x4 x5 n kd fa fb) n r → Q (.inl (some (.int r))) S) : zC m_M_judged [.ref 130, .int (nI q)] S Q :=
  b_M_judged hS (w_M_judged_2 hS hW hw hq hv hQ n 0 (by omega) (fun j hj => by omega))
theorem okW_al {x0 x1 x2 x3 x4 x5 n : Nat} {kd fa fb : Nat → Nat} (h : ∀ k, k < n → okW x0 x1 x2 x3 x4 x5 n kd fa fb k) : zAl n kd fa fb := fun t ht hh pp => by
  obtain ⟨-, h1, h2, h3, h4, h5, h6, h7, h8⟩ := h t ht
  unfold nx
  by_cases e4 : kd t = 4
  · rw [if_pos e4]
    have := h5 (by omega)
    split <;> omega
  · rw [if_neg e4]
    by_cases e7 : kd t = 7
    · rw [if_pos e7]
      have := h5 (by omega)
      split <;> omega
    · rw [if_neg e7]
      by_cases e8 : kd t = 8
      · rw [if_pos e8]
        have := h5 (by omega)
        split <;> omega
      · rw [if_neg e8]
        by_cases e9 : kd t = 9
        · rw [if_pos e9]
          exact h7 e9
        · rw [if_neg e9]
          omega
def zDy (S : ZSt) (c : Nat) : Prop := 162 ≤ c ∧ c < zx S
/-- both have the same ways -/
def jWays (S : ZSt) : Prop := ∃ wc, wc ≤ 6 ∧ zI S 75 6 = nI wc ∧ zI S 130 14 = nI wc ∧ ∀ i, i < wc → ∃ o ra rb rc n kd fa fb, zR S 90 i = some o ∧ (zDy S o ∧ zDy S ra ∧ zDy S rb ∧ zDy S rc) ∧ zWy n kd fa fb ∧ jWO S o ra rb rc n kd fa fb ∧ jWM S i n kd fa fb
theorem nI_wc {wc : Nat} (h : wc ≤ 100) : (nI wc - nI 1).toInt = (wc : Int) - 1 := by
  have t1 := zt (k := 1) rfl
  have tw := nI_toInt (n := wc) (by omega)
  rw [zsub (by omega) (by omega), t1, tw]
  rfl
theorem way_in {v : Int32} {wc : Nat} (hwc : wc ≤ 100) (h1 : ¬ v < nI 0) (h2 : ¬ nI wc - nI 1 < v) : ∃ i, i < wc ∧ v = nI i := by
  rw [zlt, zt (k := 0) rfl] at h1
  rw [zlt, nI_wc hwc] at h2
  exact ⟨v.toInt.toNat, by omega, zofN (by omega)⟩
theorem w_N_theWay {wc : Nat} {v1 : Int32} {S : ZSt} {Q : ZOut → ZSt → Prop} (hS : zSh S) (h6 : zI S 75 6 = nI wc) (hwc : wc ≤ 6) (hr : ∀ i, i < wc → ∃ o, zR S 90 i = some o) (ok : ∀ i o, i < wc → v1 = nI i → zR S 90 i = some o → Q (.inl (some (.ref o))) S) (bad : (∀ i, i < wc → v1 ≠ nI i) → Q (.inr 3) (zThr (zsI S 105 0 (zI S 105 0 + nI 1)))) : zC m_N_theWay [.ref 75, .int v1] S Q := by
  refine b_N_theWay hS ?_
  rw [h6]
  have n90 : zn S 90 = 6 := (hS.2.1 90 (by omega) (by omega)).trans rfl
  by_cases hx : ∃ i, i < wc ∧ v1 = nI i
  · obtain ⟨i, hi, rfl⟩ := hx
    obtain ⟨o, ho⟩ := hr i hi
    rw [zsub1 (by omega)]
    refine w_N_isNot0 hS (nI_nlt (by omega) (by omega)) (nI_le (by omega) (by omega)) (b_N_theWay_7 hS ⟨fun _ => ?_, fun h9 => absurd (by decide) h9⟩)
    rw [zcl9 (by omega), n90]
    exact ⟨hS.1 90 (by omega), zin (by omega) (by omega), fun h9 => (by rw [ho] at h9; cases h9), fun r h9 => ok i r hi rfl h9⟩
  · have B : zW 2 m_N_theWay 7 [some (.ref 75), some (.int v1), none] [.int (nI 1)] S Q := b_N_theWay_7 hS ⟨fun h9 => absurd h9 (by decide), fun _ => ⟨zinl rfl, zinl rfl, bad (fun i hi e => hx ⟨i, hi, e⟩)⟩⟩
    exact b_N_isNot hS ⟨fun _ => ⟨rfl, B⟩, fun h1 => ⟨fun h2 => absurd (way_in (by omega) h1 (Int32.not_lt.mpr h2)) hx, fun _ => ⟨rfl, B⟩⟩⟩
theorem w_M_may1 {v2 v3 : Int32} {S : ZSt} {Q : ZOut → ZSt → Prop} (hS : zSh S) (h0 : zI S 130 0 = nI 0) (h : Q (.inl (some (.int (nI 1)))) S) : zC m_M_may [.ref 130, .int (nI 1), .int v2, .int v3] S Q := by
  refine b_M_may hS ⟨fun _ => ⟨fun h9 => absurd (h0.trans nI_0) h9, fun _ => ⟨rfl, h⟩⟩, fun h9 => absurd (by decide) h9⟩
theorem w_M_may0 {c r : Nat} {S : ZSt} {Q : ZOut → ZSt → Prop} (hS : zSh S) (h0 : zI S 130 0 = nI 0) (hc : 0 < c ∧ c < 10) (hr : r < 4) (h : Q (.inl (some (.int (nI 0)))) (zsI (zsI S 130 0 (nI c)) 131 r (zI S 131 r + nI 1))) : zC m_M_may [.ref 130, .int (nI 0), .int (nI c), .int (nI r)] S Q := by
  refine b_M_may hS ?_
  rw [zcl9 (by omega)]
  exact ⟨fun h9 => absurd (by decide) h9, fun _ => ⟨fun h9 => absurd (h0.trans nI_0) h9, fun _ => ⟨zin hr (by omega), zin hr (by omega), fun _ => ⟨rfl, h⟩, fun h9 => absurd (nI_ne0 hc.1 (by omega)) h9⟩⟩⟩
theorem w_M_within1 {v lo hi : Int32} {S : ZSt} {Q : ZOut → ZSt → Prop} (hS : zSh S) (h1 : ¬ v < lo) (h2 : ¬ hi < v) (h : Q (.inl (some (.int (nI 1)))) S) : zC m_M_within [.int v, .int lo, .int hi] S Q := b_M_within hS ⟨fun h9 => absurd h9 h1, fun _ => ⟨fun h9 => absurd h9 h2, fun _ => ⟨rfl, h⟩⟩⟩
theorem w_M_isWay {wc : Nat} {v1 : Int32} {S : ZSt} {Q : ZOut → ZSt → Prop} (hS : zSh S) (h0 : zI S 130 0 = nI 0) (h14 : zI S 130 14 = nI wc) (hwc : wc ≤ 6) (ok : (∃ i, i < wc ∧ v1 = nI i) → Q (.inl (some (.int (nI 1)))) S) (bad : (∀ i, i < wc → v1 ≠ nI i) → Q (.inl (some (.int (nI 0)))) (zsI (zsI S 130 0 (nI 1)) 131 0 (zI S 131 0 + nI 1))) : zC m_M_isWay [.ref 130, .int v1] S Q := by
  refine b_M_isWay hS ?_
  rw [h14]
  by_cases hx : ∃ i, i < wc ∧ v1 = nI i
  · have hx' := hx
    obtain ⟨i, hi, rfl⟩ := hx
    rw [zsub1 (by omega)]
    exact w_M_within1 hS (nI_nlt (by omega) (by omega)) (nI_nlt (by omega) (by omega)) (b_M_isWay_8 hS (w_M_may1 hS h0 (b_M_isWay_11 hS ⟨rfl, ok hx'⟩)))
  · have B : zW 2 m_M_isWay 8 [some (.ref 130), some (.int v1)] [.int (nI 0), .ref 130] S Q := b_M_isWay_8 hS (w_M_may0 hS h0 (by omega) (by omega) (b_M_isWay_11 hS ⟨rfl, bad (fun i hi e => hx ⟨i, hi, e⟩)⟩))
    exact b_M_within hS ⟨fun _ => ⟨rfl, B⟩, fun h1 => ⟨fun _ => ⟨rfl, B⟩, fun h2 => absurd (way_in (by omega) h1 h2) hx⟩⟩
theorem jCore_bad0 {S : ZSt} (h : jCore S) {kk : Int32} : jCore (zsI (zsI (zsI (zThr (zsI S 105 0 (zI S 105 0 + nI 1))) 130 0 (nI 0)) 130 0 kk) 131 0 (zI S 131 0 + nI 1)) := jCore_bad h (by omega)
theorem jCore_bad1 {S : ZSt} (h : jCore S) {kk : Int32} : jCore (zsI (zsI (zsI (zThr (zsI S 105 1 (zI S 105 1 + nI 1))) 130 0 (nI 0)) 130 0 kk) 131 1 (zI S 131 1 + nI 1)) := jCore_bad h (by omega)
theorem jCore_bad3 {S : ZSt} (h : jCore S) {kk : Int32} : jCore (zsI (zsI (zsI (zThr (zsI S 105 3 (zI S 105 3 + nI 1))) 130 0 (nI 0)) 130 0 kk) 131 3 (zI S 131 3 + nI 1)) := jCore_bad h (by omega)
theorem p_judge {v1 : Int32} {S : ZSt} (hS : zSh S) (hJ : jCore S) (hw : jWays S) : zC m_L_judge [.ref 75, .int v1, .ref 161] S (zTwoR S m_M_judge [.int v1] (zAns [105, 130, 131] S jCore)) := by
  obtain ⟨wc, hwc, e6, e14, hW⟩ := hw
  refine b_L_judge hS (b_N_judge hS (w_N_theWay hS e6 hwc (fun i hi => by obtain ⟨o, _, _, _, _, _, _, _, ho, _⟩ := hW i hi; exact ⟨o, ho⟩) (fun i o hi ev ho => ?_) (fun hx => ?_)))
  · obtain ⟨o', ra, rb, rc, n, kd, fa, fb, ho', hd, y1, y2, y3⟩ := hW i hi
    obtain rfl : o' = o := Option.some.inj (ho'.symm.trans ho)
    obtain ⟨x0, x1, x2, x3, x4, x5, hf, hg⟩ := hJ.1.1.vl
    subst ev
    refine b_N_judge_3 hS ⟨y2.1, w_Wa_firstBarred hS y1 y2 hg (fun r hr => b_N_judge_7 hS (b_L_judge_5 hS ⟨zinl rfl, _, rfl, ⟨rfl, rfl, rfl, hS⟩, b_M_judge hS (w_M_isWay hS rfl e14 hwc (fun _ => b_M_judge_6 hS ⟨fun _ => w_M_judged hS y1 y3 (by omega) hf (fun r' hr' => b_M_judge_12 hS ⟨_, rfl, ?_⟩), fun h9 => absurd (by decide) h9⟩) (fun h9 => absurd rfl (h9 i hi)))⟩))⟩
    exact zOK1 rfl (fbS_u hr hr') hJ
  · exact b_L_judge_8 hS ⟨_, rfl, ⟨rfl, rfl, rfl, hS⟩, b_M_judge hS (w_M_isWay (S := zsI (zThr (zsI S 105 0 (zI S 105 0 + nI 1))) 130 0 (nI 0)) hS rfl e14 hwc (fun h9 => by obtain ⟨i, hi, e⟩ := h9; exact absurd e (hx i hi)) (fun _ => b_M_judge_6 hS ⟨fun h9 => absurd (by decide) h9, fun _ => ⟨_, rfl, zBad rfl (by decide) (jCore_bad0 hJ)⟩⟩))⟩
