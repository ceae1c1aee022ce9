/-! The object's runs -/
theorem w_Ru_ebl {o n t : Nat} {S : ZSt} {Q : ZOut → ZSt → Prop} (hS : zSh S) (w1 : zc S o = 9) (w2 : zI S o 3 = nI n) (hn : n ≤ 24) (et : zI S 106 3 = nI t) (ht : t ≤ 30) (ee : zI S 106 5 = nI 3)
    (hQ : ∀ S', zJ [106] S S' → (∀ j, j ≠ 5 → zI S' 106 j = zI S 106 j) → zI S' 106 5 = nI (if n ≤ t then 0 else 3) → Q (.inl none) S') : zC m_Ru_endBehindLast [.ref 106, .ref o] S Q := by
  refine b_Ru_endBehindLast hS ?_
  rw [ee, et, w2]
  refine ⟨fun h9 => absurd rfl h9, fun _ => ⟨w1, fun h9 => ?_, fun h9 => ?_⟩⟩
  · have h8 := (nI_ltI (by omega) (by omega)).mp h9
    refine hQ S zJ.rf (fun _ _ => rfl) ?_
    rw [if_neg (by omega)]
    exact ee
  · have h8 : n ≤ t := by
      by_cases h : n ≤ t
      · exact h
      · exact absurd (nI_lt (by omega) (by omega)) h9
    refine hQ _ (zJ.rf.I rfl) (fun j hj => by rw [zI_eq, upd_ne hj]) ?_
    rw [zI_eq, upd_self, if_pos h8]
theorem w_Ru_has {c N a x v : Nat} {S : ZSt} {Q : ZOut → ZSt → Prop} (hS : zSh S) (hc : zArr S c N) (hN : N < 100) (ha : a < N) (e : zI S c a = nI x) (hx : x ≤ 1000000000) (hv : v < 10) (h : Q (.inl (some (.int (nI (if x = v then 1 else 0))))) S) : zC m_Ru_has [.ref c, .int (nI a), .int (nI v)] S Q := by
  obtain ⟨hc, hn⟩ := hc
  refine b_Ru_has hS ⟨hc, ?_⟩
  rw [hn, zsub1 (by omega)]
  refine w_N_isNot0 hS (nI_nlt (by omega) (by omega)) (nI_le (by omega) (by omega)) (b_Ru_has_7 hS ⟨fun h9 => absurd (by decide) h9, fun _ => ⟨hc, by rw [hn]; exact zin ha (by omega), ?_⟩⟩)
  rw [zcl9 (by omega), e, nI_eq (by omega) (by omega)]
  refine ⟨fun h9 => ⟨rfl, ?_⟩, fun h9 => ⟨rfl, ?_⟩⟩
  · rw [if_neg h9] at h
    exact h
  · rw [if_pos (Classical.not_not.mp h9)] at h
    exact h
/-- what an act that was done brings: where it stands, how it ends, what was said -/
def mvr (n k a b t : Nat) (h p : Nat → Nat) : Nat × Nat × Nat := if k = 10 then (t, 1, a) else if k = 11 then (t, 0, 9) else (nx k a b t h p, if n ≤ nx k a b t h p then 0 else 3, 9)
theorem w_Ru_moveOn {o ra rb rc n t : Nat} {kd fa fb : Nat → Nat} {h p : Nat → Nat} {S : ZSt} {Q : ZOut → ZSt → Prop} (hS : zSh S) (hW : zWy n kd fa fb) (hw : jWO S o ra rb rc n kd fa fb) (no : o ≠ 106) (ht : t < n) (et : zI S 106 3 = nI t) (ee : zI S 106 5 = nI 3) (es : zI S 106 6 = nI 9) (hH : jN (zI S 108) 12 1000000000 h) (hP : jN (zI S 109) 24 3 p)
    (hQ : ∀ S', zJ [106] S S' → zI S' 106 4 = zI S 106 4 → zI S' 106 3 = nI (mvr n (kd t) (fa t) (fb t) t h p).1 → zI S' 106 5 = nI (mvr n (kd t) (fa t) (fb t) t h p).2.1 → zI S' 106 6 = nI (mvr n (kd t) (fa t) (fb t) t h p).2.2 → Q (.inl none) S') : zC m_Ru_moveOn [.ref 106, .ref o] S Q := by
  obtain ⟨hn0, hn, hk⟩ := hW
  obtain ⟨hk1, hk2, hk3, hk4, hk5, hk6, hk7⟩ := hk t ht
  obtain ⟨w1, w2, ⟨r1, r2, r3⟩, ⟨⟨c1, n1⟩, ⟨c2, n2⟩, ⟨c3, n3⟩⟩, w5⟩ := hw
  obtain ⟨k1, k2, k3⟩ := w5 t ht
  have cH : zArr S 108 12 := zA_of hS rfl
  have cP : zArr S 109 24 := zA_of hS rfl
  refine b_Ru_moveOn hS ?_
  rw [et]
  refine w_N_isNot0 hS (nI_nlt (by omega) (by omega)) (nI_le (by omega) (by omega)) ?_
  refine b_Ru_moveOn_5 hS ?_
  rw [et, zcl9 (by omega)]
  refine ⟨fun _ => ⟨w1, rb, r2, c2, by rw [n2]; exact zin (by omega) (by omega), w1, rc, r3, c3, by rw [n3]; exact zin (by omega) (by omega), w1, ra, r1, c1, by rw [n1]; exact zin (by omega) (by omega), ?_⟩, fun h9 => absurd (by decide) h9⟩
  rw [k1, k2, k3, nI_add]
  have fin : ∀ {x2 x3 : Int32} (t' : Nat), t' ≤ 30 → kd t ≤ 9 → nx (kd t) (fa t) (fb t) t h p = t' → zcl 3 m_Ru_moveOn m_Ru_endBehindLast 216 93 [some (.ref 106), some (.ref o), some (.int x2), some (.int x3)] [] [.ref 106, .ref o] (zsI S 106 3 (nI t')) Q := fun {x2 x3} t' h1 h2 h3 => by
    have em : mvr n (kd t) (fa t) (fb t) t h p = (t', if n ≤ t' then 0 else 3, 9) := by
      unfold mvr
      rw [if_neg (by omega), if_neg (by omega), h3]
    rw [em] at hQ
    refine w_Ru_ebl (S := zsI S 106 3 (nI t')) (t := t') hS w1 (by rw [zI_ne _ _ no]; exact w2) hn (by rw [zI_eq, upd_self]) h1 (by rw [zI_eq, upd_ne (by omega)]; exact ee) (fun S' j1 j2 j3 => b_Ru_moveOn_94 (j1.sh hS) (hQ S' ((zJ.rf.I rfl).tr j1) ?_ ?_ j3 ?_))
    · rw [j2 4 (by omega), zI_eq, upd_ne (by omega)]
    · rw [j2 3 (by omega), zI_eq, upd_self]
    · rw [j2 6 (by omega), zI_eq, upd_ne (by omega)]
      exact es
  have nd : 4 ≠ kd t → 7 ≠ kd t → 8 ≠ kd t → 9 ≠ kd t → nx (kd t) (fa t) (fb t) t h p = t + 1 := fun a b c d => by
    unfold nx
    rw [if_neg (Ne.symm a), if_neg (Ne.symm b), if_neg (Ne.symm c), if_neg (Ne.symm d)]
  refine ⟨⟨fun e => ?_, fun e => ?_, fun e => ?_, fun e => ?_, fun e => ?_, fun e => ?_, fun e => ?_, fun e => ?_, trivial⟩, fun e => ?_⟩
  · have k0 : kd t = 4 := nEq (by omega) (by omega) e
    have ha := hk2 (by omega)
    have hb := hk7 (by omega)
    rw [eA_n (by omega), eB_n (by omega)]
    refine w_Ru_has hS cH (by omega) ha (hH _ ha).1 (hH _ ha).2 (by omega) (b_Ru_moveOn_31 hS ?_)
    have hx : nx (kd t) (fa t) (fb t) t h p = if h (fa t) = 0 then fb t else t + 1 := by rw [k0]; rfl
    rw [et, nI_add]
    by_cases h0 : h (fa t) = 0
    · rw [if_pos h0] at hx ⊢
      exact ⟨fun h9 => absurd h9 (by decide), fun _ => fin _ (by omega) (by omega) hx⟩
    · rw [if_neg h0] at hx ⊢
      exact ⟨fun _ => fin _ (by omega) (by omega) hx, fun h9 => absurd (by decide) h9⟩
  · have k0 : kd t = 5 := nEq (by omega) (by omega) e
    exact fin _ (by omega) (by omega) (nd (by omega) (by omega) (by omega) (by omega))
  · have k0 : kd t = 6 := nEq (by omega) (by omega) e
    exact fin _ (by omega) (by omega) (nd (by omega) (by omega) (by omega) (by omega))
  · have k0 : kd t = 7 := nEq (by omega) (by omega) e
    have ha := hk3 (by omega) (by omega)
    have hb := hk7 (by omega)
    have hpb := (hP _ ha).2
    rw [eA_n (by omega), eB_n (by omega)]
    refine w_Ru_has hS cP (by omega) ha (hP _ ha).1 (by omega) (by omega) (b_Ru_moveOn_46 hS ?_)
    have hx : nx (kd t) (fa t) (fb t) t h p = if p (fa t) = 0 then fb t else t + 1 := by rw [k0]; rfl
    rw [et, nI_add]
    by_cases h0 : p (fa t) = 0
    · rw [if_pos h0] at hx ⊢
      exact ⟨fun h9 => absurd h9 (by decide), fun _ => fin _ (by omega) (by omega) hx⟩
    · rw [if_neg h0] at hx ⊢
      exact ⟨fun _ => fin _ (by omega) (by omega) hx, fun h9 => absurd (by decide) h9⟩
  · have k0 : kd t = 8 := nEq (by omega) (by omega) e
    have ha := hk3 (by omega) (by omega)
    have hb := hk7 (by omega)
    have hpb := (hP _ ha).2
    rw [eA_n (by omega), eB_n (by omega)]
    refine w_Ru_has hS cP (by omega) ha (hP _ ha).1 (by omega) (by omega) (b_Ru_moveOn_61 hS ?_)
    have hx : nx (kd t) (fa t) (fb t) t h p = if p (fa t) = 3 then fb t else t + 1 := by rw [k0]; rfl
    rw [et, nI_add]
    by_cases h0 : p (fa t) = 3
    · rw [if_pos h0] at hx ⊢
      exact ⟨fun h9 => absurd h9 (by decide), fun _ => fin _ (by omega) (by omega) hx⟩
    · rw [if_neg h0] at hx ⊢
      exact ⟨fun _ => fin _ (by omega) (by omega) hx, fun h9 => absurd (by decide) h9⟩
  · have k0 : kd t = 9 := nEq (by omega) (by omega) e
    have ha := hk4 (by omega)
    rw [eA_n (by omega)]
    exact fin _ (by omega) (by omega) (by rw [k0]; rfl)
  · have k0 : kd t = 10 := nEq (by omega) (by omega) e
    have ha := hk5 (by omega)
    rw [eA_n (by omega)]
    have em : mvr n (kd t) (fa t) (fb t) t h p = (t, 1, fa t) := by
      unfold mvr
      rw [if_pos k0]
    rw [em] at hQ
    refine b_Ru_endBehindLast (S := zsI (zsI S 106 6 (nI (fa t))) 106 5 (nI 1)) hS ⟨fun _ => b_Ru_moveOn_94 hS (hQ _ ((zJ.rf.I rfl).I rfl) rfl ?_ rfl rfl), fun h9 => absurd (by rw [zI_eq, upd_self]; decide) h9⟩
    exact et
  · have k0 : kd t = 11 := nEq (by omega) (by omega) e
    have em : mvr n (kd t) (fa t) (fb t) t h p = (t, 0, 9) := by
      unfold mvr
      rw [if_neg (by omega), if_pos k0]
    rw [em] at hQ
    exact b_Ru_endBehindLast (S := zsI S 106 5 (nI 0)) hS ⟨fun _ => b_Ru_moveOn_94 hS (hQ _ (zJ.rf.I rfl) rfl et rfl es), fun h9 => absurd (by rw [zI_eq, upd_self]; decide) h9⟩
  · rw [nI_toInt (by omega)] at e
    exact fin _ (by omega) (by omega) (nd (by omega) (by omega) (by omega) (by omega))
theorem w_Ru_follow_end {o lim i e : Nat} {S : ZSt} {Q : ZOut → ZSt → Prop} (hS : zSh S) (ee : zI S 106 5 = nI e) (he : e < 3) (h : Q (.inl none) S) : zW 4 m_Ru_follow 2 [some (.ref 106), some (.ref o), some (.int (nI lim)), some (.int (nI i))] [] S Q := by
  refine b_Ru_follow_2 hS ⟨fun _ => h, fun _ => ⟨fun _ => h, fun h9 => absurd ?_ h9⟩⟩
  rw [ee, nI_eq (by omega) (by omega)]
  omega
theorem zJ3 {l l' : List Nat} {S S1 : ZSt} (h : zJ l S S1) (hl : ∀ c, zmem c l' = false → zmem c l = false) : zJ l' S S1 := ⟨h.1, fun c hc => h.2 c (hl c hc)⟩
theorem zmemN {c a : Nat} {l : List Nat} (h : zmem c (a :: l) = false) : c ≠ a ∧ zmem c l = false := by
  have h1 : (Nat.beq c a || zmem c l) = false := h
  obtain ⟨h2, h3⟩ := Bool.or_eq_false_iff.mp h1
  refine ⟨fun e => ?_, h3⟩
  subst e
  rw [Nat.beq_refl] at h2
  cases h2
theorem zmemC {c a : Nat} {l : List Nat} (h : c ≠ a) (h1 : zmem c l = false) : zmem c (a :: l) = false := by
  show (Nat.beq c a || zmem c l) = false
  rw [h1, Bool.or_false]
  cases hb : Nat.beq c a with
  | false => rfl
  | true => exact absurd (Nat.eq_of_beq_eq_true hb) h
theorem go_s {n : Nat} {kd fa fb : Nat → Nat} {f t m : Nat} {h p : Nat → Nat} {q : (Nat → Nat) × (Nat → Nat)} (hq : dox (kd t) (fa t) (fb t) h p = some q) : go n kd fa fb (f + 1) h p t m = if (mvr n (kd t) (fa t) (fb t) t q.1 q.2).2.1 = 3 then go n kd fa fb f q.1 q.2 (mvr n (kd t) (fa t) (fb t) t q.1 q.2).1 (m + 1) else (q.1, q.2, (mvr n (kd t) (fa t) (fb t) t q.1 q.2).1, m + 1, (mvr n (kd t) (fa t) (fb t) t q.1 q.2).2.1, (mvr n (kd t) (fa t) (fb t) t q.1 q.2).2.2) := by
  unfold mvr
  by_cases h1 : kd t = 10
  · simp only [go, hq]
    rw [if_pos h1, if_pos h1]
    rfl
  · by_cases h2 : kd t = 11
    · simp only [go, hq]
      rw [if_neg h1, if_neg h1, if_pos h2, if_pos h2]
      rfl
    · by_cases h3 : n ≤ nx (kd t) (fa t) (fb t) t q.1 q.2
      · simp only [go, hq]
        rw [if_neg h1, if_neg h1, if_neg h2, if_neg h2, if_pos h3, if_pos h3]
        rfl
      · simp only [go, hq]
        rw [if_neg h1, if_neg h1, if_neg h2, if_neg h2, if_neg h3, if_neg h3]
        rfl
theorem go_n {n : Nat} {kd fa fb : Nat → Nat} {f t m : Nat} {h p : Nat → Nat} (hq : dox (kd t) (fa t) (fb t) h p = none) : go n kd fa fb (f + 1) h p t m = (h, p, t, m, 2, 9) := by
  simp only [go, hq]
theorem mvr_c {n k a b t : Nat} {h p : Nat → Nat} (ha : k = 10 → a ≤ 3) : ((mvr n k a b t h p).2.1 = 3 ∧ (mvr n k a b t h p).1 < n ∧ (mvr n k a b t h p).2.2 = 9) ∨ (mvr n k a b t h p).2.1 < 3 := by
  unfold mvr
  by_cases h1 : k = 10
  · rw [if_pos h1]
    exact Or.inr (show 1 < 3 by omega)
  · rw [if_neg h1]
    by_cases h2 : k = 11
    · rw [if_pos h2]
      exact Or.inr (show 0 < 3 by omega)
    · rw [if_neg h2]
      by_cases h3 : n ≤ nx k a b t h p
      · rw [if_pos h3]
        exact Or.inr (show 0 < 3 by omega)
      · rw [if_neg h3]
        exact Or.inl ⟨rfl, Nat.lt_of_not_le h3, rfl⟩
theorem w_Ru_follow_2 {o ra rb rc n : Nat} {kd fa fb : Nat → Nat} (hW : zWy n kd fa fb) (n0 : zNo [106, 108, 109] o) (n1 : zNo [106, 108, 109] ra) (n2 : zNo [106, 108, 109] rb) (n3 : zNo [106, 108, 109] rc) :
    ∀ (f i m t lim : Nat) (h p : Nat → Nat) {S : ZSt} {Q : ZOut → ZSt → Prop}, zSh S → jWO S o ra rb rc n kd fa fb → f + i = lim → lim ≤ 4000 → t < n → jR S (h, p, t, m, 3, 9) → (∀ S', zJ [106, 108, 109] S S' → jR S' (go n kd fa fb f h p t m) → Q (.inl none) S') →
    zW 4 m_Ru_follow 2 [some (.ref 106), some (.ref o), some (.int (nI lim)), some (.int (nI i))] [] S Q
  | 0, i, m, t, lim, h, p, S, Q, hS, hw, hf, hl, ht, hr, hQ => by
    exact b_Ru_follow_2 hS (pk_le lim i (fun _ => hQ S zJ.rf hr) (fun h9 => by omega))
  | f + 1, i, m, t, lim, h, p, S, Q, hS, hw, hf, hl, ht, hr, hQ => by
    obtain ⟨hH, hP, e3, e4, e5, e6⟩ := hr
    refine b_Ru_follow_2 hS (pk_le lim i (fun h9 => by omega) (fun h9 => ⟨fun h8 => absurd e5 h8, fun _ => ?_⟩))
    refine w_Ru_isDone hS hW hw ht e3 hH hP (fun q hq S1 j1 hh hp => ?_) (fun hq S1 j1 hh hp => ?_)
    · have c106 : zI S1 106 = zI S 106 := j1.2 106 rfl
      have j1' : zJ [106, 108, 109] S S1 := zJ3 j1 (fun c hc => (zmemN hc).2)
      refine b_Ru_follow_12 (j1.sh hS) ⟨fun h9 => absurd h9 (by decide), fun _ => ?_⟩
      rw [c106, e4, nI_add]
      have jm : zJ [106, 108, 109] S (zsI S1 106 4 (nI (m + 1))) := j1'.I rfl
      refine w_Ru_moveOn (S := zsI S1 106 4 (nI (m + 1))) (h := q.1) (p := q.2) (t := t) (j1.sh hS) hW (hw.J jm n0 n1 n2 n3) (fun e => by rw [e] at n0; cases n0) ht ?_ ?_ ?_ hh hp (fun S2 j2 x4 x3 x5 x6 => b_Ru_follow_22 (j2.sh (j1.sh hS)) ?_)
      · rw [zI_eq, upd_ne (by omega), c106]
        exact e3
      · rw [zI_eq, upd_ne (by omega), c106]
        exact e5
      · rw [zI_eq, upd_ne (by omega), c106]
        exact e6
      · have j2' : zJ [106, 108, 109] S S2 := jm.tr (zJ3 j2 (fun c hc => zmemC (zmemN hc).1 rfl))
        have hh2 : jN (zI S2 108) 12 1000000000 q.1 := by
          rw [j2.2 108 rfl, zI_ne _ _ (by omega)]
          exact hh
        have hp2 : jN (zI S2 109) 24 3 q.2 := by
          rw [j2.2 109 rfl, zI_ne _ _ (by omega)]
          exact hp
        have x4' : zI S2 106 4 = nI (m + 1) := by
          rw [x4, zI_eq, upd_self]
        rw [nI_add]
        rw [go_s hq] at hQ
        rcases mvr_c (n := n) (b := fb t) (t := t) (h := q.1) (p := q.2) (hW.2.2 t ht).2.2.2.2.1 with ⟨y1, y2, y3⟩ | y1
        · rw [if_pos y1] at hQ
          rw [y1] at x5
          rw [y3] at x6
          exact w_Ru_follow_2 hW n0 n1 n2 n3 f (i + 1) (m + 1) _ lim q.1 q.2 (j2'.sh hS) (hw.J j2' n0 n1 n2 n3) (by omega) hl y2 ⟨hh2, hp2, x3, x4', x5, x6⟩ (fun S' j hr => hQ S' (j2'.tr j) hr)
        · rw [if_neg (by omega)] at hQ
          exact w_Ru_follow_end (j2'.sh hS) x5 y1 (hQ S2 j2' ⟨hh2, hp2, x3, x4', x5, x6⟩)
    · have c106 : zI S1 106 = zI S 106 := j1.2 106 rfl
      have j1' : zJ [106, 108, 109] S S1 := zJ3 j1 (fun c hc => (zmemN hc).2)
      refine b_Ru_follow_12 (j1.sh hS) ⟨fun _ => ?_, fun h9 => absurd (by decide) h9⟩
      rw [nI_add]
      rw [go_n hq] at hQ
      refine w_Ru_follow_end (e := 2) (j1.sh hS) (by rw [zI_eq, upd_self]) (by omega) (hQ _ (j1'.I rfl) ⟨hh, hp, ?_, ?_, ?_, ?_⟩)
      · rw [zI_eq, upd_ne (by omega), c106]
        exact e3
      · rw [zI_eq, upd_ne (by omega), c106]
        exact e4
      · rw [zI_eq, upd_self]
      · rw [zI_eq, upd_ne (by omega), c106]
        exact e6
theorem w_Ru_follow {o ra rb rc n : Nat} {kd fa fb : Nat → Nat} (hW : zWy n kd fa fb) (n0 : zNo [106, 108, 109] o) (n1 : zNo [106, 108, 109] ra) (n2 : zNo [106, 108, 109] rb) (n3 : zNo [106, 108, 109] rc) {m t lim : Nat} {h p : Nat → Nat} {S : ZSt} {Q : ZOut → ZSt → Prop} (hS : zSh S) (hw : jWO S o ra rb rc n kd fa fb) (hl : lim ≤ 4000) (ht : t < n) (hr : jR S (h, p, t, m, 3, 9)) (hQ : ∀ S', zJ [106, 108, 109] S S' → jR S' (go n kd fa fb lim h p t m) → Q (.inl none) S') : zC m_Ru_follow [.ref 106, .ref o, .int (nI lim)] S Q :=
  b_Ru_follow hS (w_Ru_follow_2 hW n0 n1 n2 n3 lim 0 m t lim h p hS hw (by omega) hl ht hr hQ)
