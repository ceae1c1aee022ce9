/-! What is kept at an act: the reference's side, and alike -/
theorem fin_k {N : Nat} {kd fa fb : Nat → Nat} {k f t : Nat} {cs : List (List (Nat × Nat))} {w h p : Nat → Nat} {kf b : Bool} (hb : ck k cs w h p t = true → kpt N kd fa fb k cs w f h p t = b) : (kf && kpt N kd fa fb k cs w f h p t) = ((kf && ck k cs w h p t) && b) := by
  cases hc : ck k cs w h p t with
  | false =>
    rw [kpt_f hc]
    cases kf <;> rfl
  | true =>
    rw [hb hc]
    cases kf <;> rfl
theorem w_M_gK_30 {q N k tt lim : Nat} {kd fa fb : Nat → Nat} {cs : List (List (Nat × Nat))} {w : Nat → Nat} (hW : zWy N kd fa fb) (hA : zAl N kd fa fb) (hq : q ≤ 6) (hk : k ≤ 24) (htt : tt < 6) (hf : wfT cs) (hl : lim ≤ 4000) : ∀ (f m t : Nat) (h p : Nat → Nat) (kf : Bool) {x5 : Int32} {u6 : Option Value} {S : ZSt} {Q : ZOut → ZSt → Prop}, zSh S → jWM S q N kd fa fb → jTM S tt cs → t ≤ N → m + f = lim → zI S 130 34 = nI k → zI S 130 35 = nI tt → zI S 130 36 = zBo kf → jN (zI S 145) 12 1000000000 w → jQ S (h, p, t, m, 3, 9) → (∀ S', zJ [130, 144, 146, 147] S S' → zK36 S S' → zI S' 130 36 = zBo (kf && kpt N kd fa fb k cs w f h p t) → Q (.inl none) S') → zW 3 m_M_goes 30 [some (.ref 130), some (.int (nI q)), some (.int (nI lim)), some (.int (- nI 1)), some (.int (nI 0)), some (.int x5), u6] [] S Q := by
  intro f
  induction f with
  | zero =>
    intro m t h p kf x5 u6 S Q hS hw hT ht hm e34 e35 e36 hwas hr hQ
    have hN := hW.2.1
    rw [show (kf && kpt N kd fa fb k cs w 0 h p t) = (kf && ck k cs w h p t) from rfl] at hQ
    have at44 : ∀ {S1 : ZSt}, zSh S1 → zJ [130, 144, 146, 147] S S1 → zK36 S S1 → jQ S1 (h, p, t, m, 3, 9) → zI S1 130 36 = zBo (kf && ck k cs w h p t) → zW 3 m_M_goes 44 [some (.ref 130), some (.int (nI q)), some (.int (nI lim)), some (.int (- nI 1)), some (.int (nI 0)), some (.int x5), u6] [] S1 Q := fun {S1} hS1 j1 s1 r1 f1 => by
      refine b_M_goes_44 hS1 ?_
      have w1 := hw.J j1 rfl
      rw [zcl9 (by omega), w1.1, r1.2.2.1, r1.2.2.2.1]
      refine ⟨zin (by omega) (by omega), fun _ => ⟨fun h9 => absurd (by rw [show m = lim by omega]) h9, fun _ => hQ S1 j1 s1 f1⟩, fun _ => hQ _ (j1.I rfl) (fun j a b => by rw [zI_o (by omega)]; exact s1 j a b) (by rw [zI_o (by omega)]; exact f1)⟩
    refine b_M_goes_30 hS ?_
    rw [hr.2.2.1, e34, e36, e35]
    refine ⟨fun h9 => at44 hS zJ.rf (fun _ _ _ => rfl) hr (by rw [ck_ne (fun e => h9 (by rw [show t = k from e])), Bool.and_true]; exact e36), fun h9 => ?_⟩
    have etk : t = k := nEq (by omega) (by omega) (Classical.not_not.mp h9)
    cases kf with
    | false => exact ⟨fun _ => at44 hS zJ.rf (fun _ _ _ => rfl) hr e36, fun h8 => absurd rfl h8⟩
    | true =>
      refine ⟨fun h8 => absurd h8 (by decide), fun _ => w_M_allSo (w := w) (h := h) (p := p) (sd := 9) htt hf hS hT ⟨hwas, hr.1, hr.2.1, hr.2.2.2.2.2⟩ (fun S1 j1 => b_M_goes_43 (j1.sh hS) ⟨?_, ?_⟩)⟩
      · cases tru (vl w h p 9) cs
        · exact Or.inl rfl
        · exact Or.inr rfl
      · have j2 : zJ [130, 144, 146, 147] S (zsI S1 130 36 (zBo (tru (vl w h p 9) cs))) := (zJ3 j1 (zsub_of rfl)).I rfl
        have s2 : zK36 S (zsI S1 130 36 (zBo (tru (vl w h p 9) cs))) := fun j a b => by rw [zI_o b, j1.2 130 rfl]
        refine at44 (S1 := zsI S1 130 36 (zBo (tru (vl w h p 9) cs))) (j1.sh hS) j2 s2 ?_ ?_
        · unfold jQ
          rw [zI_o (by omega), zI_o (by omega), zI_o (by omega), zI_o (by omega), zI_ne _ _ (by omega), zI_ne _ _ (by omega), j1.2 130 rfl, j1.2 146 rfl, j1.2 147 rfl]
          exact hr
        · rw [zI_s, ck_eq etk, Bool.true_and]
  | succ f ih =>
    intro m t h p kf x5 u6 S Q hS hw hT ht hm e34 e35 e36 hwas hr hQ
    have hN := hW.2.1
    have at44 : ∀ {S1 : ZSt}, zSh S1 → zJ [130, 144, 146, 147] S S1 → zK36 S S1 → jQ S1 (h, p, t, m, 3, 9) → zI S1 130 36 = zBo (kf && ck k cs w h p t) → zW 3 m_M_goes 44 [some (.ref 130), some (.int (nI q)), some (.int (nI lim)), some (.int (- nI 1)), some (.int (nI 0)), some (.int x5), u6] [] S1 Q := fun {S1} hS1 j1 s1 r1 f1 => by
      refine b_M_goes_44 hS1 ?_
      have w1 := hw.J j1 rfl
      obtain ⟨hH, hP, e31, e30, e29, e32⟩ := r1
      have mk : ¬ nI m = - nI 1 := nI_m1 (by omega)
      rw [zcl9 (by omega), w1.1, e31, e30, pk_mul, nI_add]
      refine ⟨zin (by omega) (by omega), fun hne => ⟨fun _ => ⟨fun _ => ?_, fun h9 => absurd mk h9⟩, fun h9 => absurd (fun e => ?_) h9⟩, fun h9 => ?_⟩
      · have htN : t < N := by
          by_cases e : t = N
          · exact absurd (by rw [e]) hne
          · omega
        refine b_M_goes_86 hS1 ?_
        rw [e30, e31, nI_add]
        refine ⟨fun _ => ?_, fun h9 => absurd mk h9⟩
        have j0 : zJ [130, 144, 146, 147] S1 (zsI S1 130 33 (nI (t + 1))) := zJ.rf.I rfl
        have s0 : zK36 S1 (zsI S1 130 33 (nI (t + 1))) := fun j a b => zI_o (by omega)
        refine w_M_does (S := zsI S1 130 33 (nI (t + 1))) (h := h) (p := p) hS1 hW (w1.J j0 rfl) hq htN hH hP zI_s (fun r hr2 S2 j2 s2 hh hp ej => ?_) (fun hr2 => ?_)
        · have j12 : zJ [130, 144, 146, 147] S S2 := (j1.tr j0).tr (zJ3 j2 (zsub_of rfl))
          have s12 : zK36 S S2 := fun j a b => by rw [s2 j (by omega), s0 j a b, s1 j a b]
          have hS2 := j12.sh hS
          have k1 := (hw.J j12 rfl).2 t htN
          obtain ⟨k1, k2, k3⟩ := k1
          have hkd := (hW.2.2 t htN).1
          have f2 : zI S2 130 36 = zBo (kf && ck k cs w h p t) := by rw [s2 36 (by omega), zI_o (by omega)]; exact f1
          have hi : vp_in (nI (24 * q + t)) 168 := zin (by omega) (by omega)
          have hc : (nI (24 * q + t)).toNatClampNeg = 24 * q + t := zcl9 (by omega)
          refine b_M_goes_112 hS2 ⟨fun h9 => absurd h9 (by decide), fun _ => ⟨fun _ => ?_, fun h9 => absurd (by decide) h9⟩⟩
          refine b_M_goes_123 hS2 ?_
          rw [hc, k1, s2 30 (by omega), zI_o (by omega), e30, nI_add]
          have stop : (kd t = 10 ∨ kd t = 11) → zW 3 m_M_goes 141 [some (.ref 130), some (.int (nI q)), some (.int (nI lim)), some (.int (- nI 1)), some (.int (nI 0)), some (.int (nI (24 * q + t))), some (.int (nI 0))] [] (zsI S2 130 30 (nI (m + 1))) Q := fun hkk => by
            rw [fin_k (b := true) (fun hc => kpt_e hc hkk), Bool.and_true] at hQ
            refine b_M_goes_141 (S := zsI S2 130 30 (nI (m + 1))) hS2 ?_
            rw [hc, zI_ne _ _ (by omega), k1]
            have z : ∀ {a b : Int32}, Q (.inl none) (zsI (zsI (zsI S2 130 30 (nI (m + 1))) 130 29 a) 130 32 b) := fun {a b} => hQ _ (((j12.I rfl).I rfl).I rfl) (fun j a b => by rw [zI_o (by omega), zI_o (by omega), zI_o (by omega)]; exact s12 j a b) (by rw [zI_o (by omega), zI_o (by omega), zI_o (by omega)]; exact f2)
            exact ⟨hi, fun _ => ⟨hi, fun _ => z, fun _ => ⟨hi, z⟩⟩, fun _ => ⟨hi, fun _ => z, fun _ => ⟨hi, z⟩⟩⟩
          refine ⟨hi, fun e => stop (Or.inl (nEq (by omega) (by omega) e)), fun h10 => ⟨hi, fun h11 => ?_, fun e => stop (Or.inr (nEq (by omega) (by omega) (Classical.not_not.mp e)))⟩⟩
          have hnk : ¬ (kd t = 10 ∨ kd t = 11) := fun h9 => by
            rcases h9 with h9 | h9
            · exact h10 (by rw [h9])
            · exact h11 (by rw [h9])
          rw [fin_k (b := kpt N kd fa fb k cs w f r.1 r.2 (nx (kd t) (fa t) (fb t) t r.1 r.2)) (fun hc => kpt_s hc htN hr2 hnk)] at hQ
          rw [ej]
          have hle := hA t htN r.1 r.2
          generalize nx (kd t) (fa t) (fb t) t r.1 r.2 = t' at *
          have j3 : zJ [130, 144, 146, 147] S (zsI (zsI S2 130 30 (nI (m + 1))) 130 31 (nI t')) := (j12.I rfl).I rfl
          have s3 : zK36 S (zsI (zsI S2 130 30 (nI (m + 1))) 130 31 (nI t')) := fun j a b => by rw [zI_o (by omega), zI_o (by omega)]; exact s12 j a b
          refine ih (m + 1) t' r.1 r.2 (kf && ck k cs w h p t) (S := zsI (zsI S2 130 30 (nI (m + 1))) 130 31 (nI t')) hS2 (hw.J j3 rfl) (hT.J j3 rfl rfl) hle (by omega) ((s3 34 (by omega) (by omega)).trans e34) ((s3 35 (by omega) (by omega)).trans e35) (by rw [zI_o (by omega), zI_o (by omega)]; exact f2) (by rw [j3.2 145 rfl]; exact hwas) ⟨hh, hp, zI_s, (zI_o (by omega)).trans zI_s, ?_, ?_⟩ (fun S' j' s' => hQ S' (j3.tr j') (s3.tr s'))
          · rw [zI_o (by omega), zI_o (by omega), s2 29 (by omega), zI_o (by omega)]
            exact e29
          · rw [zI_o (by omega), zI_o (by omega), s2 32 (by omega), zI_o (by omega)]
            exact e32
        · rw [fin_k (b := true) (fun hc => kpt_n hc hr2), Bool.and_true] at hQ
          exact b_M_goes_112 hS1 ⟨fun _ => hQ _ ((j1.tr j0).I rfl) (fun j a b => by rw [zI_o (by omega), s0 j a b]; exact s1 j a b) (by rw [zI_o (by omega), zI_o (by omega)]; exact f1), fun h9 => absurd (by decide) h9⟩
      · have := nEq (a := m) (b := lim) (by omega) (by omega) e
        omega
      · have etN : t = N := nEq (by omega) (by omega) (Classical.not_not.mp h9)
        rw [fin_k (b := true) (fun hc => kpt_N hc (by omega)), Bool.and_true] at hQ
        exact hQ _ (j1.I rfl) (fun j a b => by rw [zI_o (by omega)]; exact s1 j a b) (by rw [zI_o (by omega)]; exact f1)
    refine b_M_goes_30 hS ?_
    rw [hr.2.2.1, e34, e36, e35]
    refine ⟨fun h9 => at44 hS zJ.rf (fun _ _ _ => rfl) hr (by rw [ck_ne (fun e => h9 (by rw [show t = k from e])), Bool.and_true]; exact e36), fun h9 => ?_⟩
    have etk : t = k := nEq (by omega) (by omega) (Classical.not_not.mp h9)
    cases kf with
    | false => exact ⟨fun _ => at44 hS zJ.rf (fun _ _ _ => rfl) hr e36, fun h8 => absurd rfl h8⟩
    | true =>
      refine ⟨fun h8 => absurd h8 (by decide), fun _ => w_M_allSo (w := w) (h := h) (p := p) (sd := 9) htt hf hS hT ⟨hwas, hr.1, hr.2.1, hr.2.2.2.2.2⟩ (fun S1 j1 => b_M_goes_43 (j1.sh hS) ⟨?_, ?_⟩)⟩
      · cases tru (vl w h p 9) cs
        · exact Or.inl rfl
        · exact Or.inr rfl
      · have j2 : zJ [130, 144, 146, 147] S (zsI S1 130 36 (zBo (tru (vl w h p 9) cs))) := (zJ3 j1 (zsub_of rfl)).I rfl
        have s2 : zK36 S (zsI S1 130 36 (zBo (tru (vl w h p 9) cs))) := fun j a b => by rw [zI_o b, j1.2 130 rfl]
        refine at44 (S1 := zsI S1 130 36 (zBo (tru (vl w h p 9) cs))) (j1.sh hS) j2 s2 ?_ ?_
        · unfold jQ
          rw [zI_o (by omega), zI_o (by omega), zI_o (by omega), zI_o (by omega), zI_ne _ _ (by omega), zI_ne _ _ (by omega), j1.2 130 rfl, j1.2 146 rfl, j1.2 147 rfl]
          exact hr
        · rw [zI_s, ck_eq etk, Bool.true_and]
theorem w_M_goesK {q N k tt : Nat} {kd fa fb : Nat → Nat} {cs : List (List (Nat × Nat))} {w : Nat → Nat} (hW : zWy N kd fa fb) (hA : zAl N kd fa fb) (hq : q ≤ 6) (hk : k ≤ 24) (htt : tt < 6) (hf : wfT cs) {S : ZSt} {Q : ZOut → ZSt → Prop} (hS : zSh S) (hw : jWM S q N kd fa fb) (hT : jTM S tt cs) (e34 : zI S 130 34 = nI k) (e35 : zI S 130 35 = nI tt) (hwas : jN (zI S 145) 12 1000000000 w) (hP : jN (zI S 147) 24 3 z0) (hQ : ∀ S', zJ [130, 144, 146, 147] S S' → zK36 S S' → zI S' 130 36 = zBo (kpt N kd fa fb k cs w 2000 w z0 0) → Q (.inl none) S') : zC m_M_goes [.ref 130, .int (nI q), .int (nI 2000), .int (- nI 1), .int (nI 0)] S Q := by
  refine b_M_goes hS (w_M_goes_2 12 0 hS (by omega) (zCp.start cpF_0) (fun S1 a1 => ?_))
  have j1 : zJ [130, 144, 146, 147] S S1 := zJ3 a1.J (zsub_of rfl)
  have c130 : zI S1 130 = zI S 130 := a1.2.1 130 (by omega)
  have j2 : zJ [130, 144, 146, 147] S (zsI (zsI (zsI (zsI (zsI S1 130 31 (nI 0)) 130 30 (nI 0)) 130 32 (nI 9)) 130 29 (nI 3)) 130 36 (nI 1)) := ((((j1.I rfl).I rfl).I rfl).I rfl).I rfl
  have s2 : zK36 S (zsI (zsI (zsI (zsI (zsI S1 130 31 (nI 0)) 130 30 (nI 0)) 130 32 (nI 9)) 130 29 (nI 3)) 130 36 (nI 1)) := fun j h1 h2 => by rw [zI_o h2, zI_o (by omega), zI_o (by omega), zI_o (by omega), zI_o (by omega), c130]
  refine w_M_gK_30 hW hA hq hk htt hf (by omega) 2000 0 0 w z0 true (S := zsI (zsI (zsI (zsI (zsI S1 130 31 (nI 0)) 130 30 (nI 0)) 130 32 (nI 9)) 130 29 (nI 3)) 130 36 (nI 1)) (j1.sh hS) (hw.J j2 rfl) (hT.J j2 rfl rfl) (Nat.zero_le _) (by omega) ((s2 34 (by omega) (by omega)).trans e34) ((s2 35 (by omega) (by omega)).trans e35) zI_s (by rw [j2.2 145 rfl]; exact hwas) ⟨fun j hj => ?_, ?_, ?_, ?_, ?_, ?_⟩ (fun S' j' s' e => hQ S' (j2.tr j') (s2.tr s') (by rw [Bool.true_and] at e; exact e))
  · show zI S1 146 j = _ ∧ _
    rw [a1.2.2, cpF_in hj, show 0 + j = j by omega]
    exact hwas j hj
  · show jN (zI S1 147) 24 3 z0
    rw [a1.2.1 147 (by omega)]
    exact hP
  · rw [zI_o (by omega), zI_o (by omega), zI_o (by omega), zI_o (by omega), zI_s]
  · rw [zI_o (by omega), zI_o (by omega), zI_o (by omega), zI_s]
  · rw [zI_o (by omega), zI_s]
  · rw [zI_o (by omega), zI_o (by omega), zI_s]
/-- kept from a small flock -/
def kp (N : Nat) (kd fa fb : Nat → Nat) (k : Nat) (cs : List (List (Nat × Nat))) (w : Nat → Nat) : Bool := kpt N kd fa fb k cs w 2000 w z0 0
theorem w_N_kept_32 {o o2 N k m n : Nat} {kd fa fb : Nat → Nat} {cs : List (List (Nat × Nat))} {x1 x2 : Int32} (hA : zAl N kd fa fb) (hk : k ≤ 24) (hm : 1 ≤ m ∧ m ≤ 3) (hn : n ≤ 9) : ∀ (f i : Nat) {S : ZSt} {Q : ZOut → ZSt → Prop}, zSh S → f + i = (n + 1) ^ m → OW S o N kd fa fb → OT S o2 cs → (∀ S', zH lO S S' → zSh S' → Q (.inl (some (.int (fO (fun i => kp N kd fa fb k cs (dgt (n + 1) m i)) (fun i => dcp (n + 1) m i m) (List.range' i f))))) S') → zW 6 m_N_kept 32 [some (.ref 75), some (.int x1), some (.int x2), some (.int (nI k)), some (.int (nI m)), some (.int (nI n)), some (.ref o), some (.ref o2), some (.int (nI ((n + 1) ^ m))), some (.int (nI i))] [] S Q
  | 0, i, S, Q, hS, hi, hw, ht, hQ => by
    have hb := pow_b (m := m) (n := n) (by omega) hn
    exact b_N_kept_32 hS ⟨fun _ => hQ S zH.rf hS, fun h9 => absurd (nI_le (by omega) (by omega)) h9⟩
  | f + 1, i, S, Q, hS, hi, hw, ht, hQ => by
    have hb := pow_b (m := m) (n := n) (by omega) hn
    refine b_N_kept_32 hS ⟨fun h9 => absurd h9 (nI_ge (by omega) (by omega)), fun _ => w_Ru_startSmall (by omega) hn (by omega) hS (fun S1 j1 w1 r1 => b_N_kept_41 (j1.sh hS) ?_)⟩
    have hS1 := j1.sh hS
    have h1 : zH lO S S1 := j1.hO rfl
    refine b_Ru_keepsAt hS1 (w_Ru_kA_4 hA hk 2000 0 0 0 3 (dgt (n + 1) m i) z0 hS1 (hw.H h1) (ht.H h1) (by omega) (Or.inl ⟨rfl, hw.1.1⟩) w1 r1 (fun S2 j2 hS2 w2 => b_N_kept_47 hS2 ?_))
    have h2 := h1.tr j2
    have e : fO (fun i => kp N kd fa fb k cs (dgt (n + 1) m i)) (fun i => dcp (n + 1) m i m) (List.range' i (f + 1)) = if kp N kd fa fb k cs (dgt (n + 1) m i) = true then fO (fun i => kp N kd fa fb k cs (dgt (n + 1) m i)) (fun i => dcp (n + 1) m i m) (List.range' (i + 1) f) else nI (dcp (n + 1) m i m) := rfl
    rw [e] at hQ
    cases hbb : kpt N kd fa fb k cs (dgt (n + 1) m i) 2000 (dgt (n + 1) m i) z0 0 with
    | true =>
      refine ⟨fun _ => ?_, fun h9 => absurd (by decide) h9⟩
      rw [nI_add]
      refine w_N_kept_32 hA hk hm hn f (i + 1) hS2 (by omega) (hw.H h2) (ht.H h2) (fun S' j' hS' => ?_)
      have := hQ S' (h2.tr j') hS'
      rw [if_pos (show kp N kd fa fb k cs (dgt (n + 1) m i) = true from hbb)] at this
      exact this
    | false =>
      refine ⟨fun h9 => absurd (by decide) h9, fun _ => w_Ru_flockNumber (b := n + 1) (i := i) (by omega) hm.2 hS2 w2 (b_N_kept_52 hS2 ?_)⟩
      have := hQ S2 h2 hS2
      rw [if_neg (by show ¬ kpt N kd fa fb k cs (dgt (n + 1) m i) 2000 (dgt (n + 1) m i) z0 0 = true; rw [hbb]; decide)] at this
      exact this
theorem w_M_kp_88 {q t k m n all j : Nat} {x7 : Int32} {S : ZSt} {Q : ZOut → ZSt → Prop} (hS : zSh S) (hn : n ≤ 9) : ∀ (fu r : Nat) (fl : Bool), r < 10 ^ fu → fu ≤ 3 → zW 4 m_M_kept 88 [some (.ref 130), some (.int (nI q)), some (.int (nI t)), some (.int (nI k)), some (.int (nI m)), some (.int (nI n)), some (.int (nI all)), some (.int x7), some (.int (nI j)), some (.int (zBo (fl && okf n fu r))), some (.int (nI 0))] [] S Q → zW 4 m_M_kept 88 [some (.ref 130), some (.int (nI q)), some (.int (nI t)), some (.int (nI k)), some (.int (nI m)), some (.int (nI n)), some (.int (nI all)), some (.int x7), some (.int (nI j)), some (.int (zBo fl)), some (.int (nI r))] [] S Q
  | 0, r, fl, hr, hf, h => by
    have hr0 : r < 1 := hr
    obtain rfl : r = 0 := by omega
    rw [show (fl && okf n 0 0) = fl by show (fl && true) = fl; exact Bool.and_true fl] at h
    exact h
  | fu + 1, r, fl, hr, hf, h => by
    by_cases h0 : r = 0
    · subst h0
      rw [show (fl && okf n (fu + 1) 0) = fl by show (fl && true) = fl; exact Bool.and_true fl] at h
      exact h
    · have e : okf n (fu + 1) r = (decide (r % 10 ≤ n) && okf n fu (r / 10)) := if_neg h0
      rw [e] at h
      have hb : r < 2 ^ 31 := by
        have : 10 ^ (fu + 1) ≤ 10 ^ 3 := Nat.pow_le_pow_right (by omega) hf
        omega
      have hr' : r / 10 < 10 ^ fu := by
        rw [Nat.pow_succ] at hr
        omega
      have ih := fun fl' => w_M_kp_88 (q := q) (t := t) (m := m) (k := k) (all := all) (j := j) (x7 := x7) (Q := Q) hS hn fu (r / 10) fl' hr' (by omega)
      refine b_M_kept_88 hS ⟨fun h9 => absurd h9 (nI_nle (by omega) hb), fun _ => ?_⟩
      rw [zrem hb (by omega) (by omega), pk_div hb (by omega) (by omega)]
      cases fl with
      | false => exact ⟨fun _ => ⟨by decide, ih false (by simpa using h)⟩, fun h9 => absurd rfl h9⟩
      | true =>
        refine ⟨fun h9 => absurd h9 (by decide), fun _ => ⟨by decide, fun h9 => ⟨by decide, ih false ?_⟩, fun h9 => ⟨by decide, ih true ?_⟩⟩⟩
        · have : ¬ r % 10 ≤ n := fun h8 => absurd h9 (nI_nlt h8 (by omega))
          rw [decide_eq_false this] at h
          exact h
        · have : r % 10 ≤ n := Nat.not_lt.mp (fun h8 => h9 (nI_lt h8 (by omega)))
          rw [decide_eq_true this] at h
          exact h
theorem w_M_kept_78 {q t k m n N : Nat} {kd fa fb : Nat → Nat} {cs : List (List (Nat × Nat))} (hW : zWy N kd fa fb) (hA : zAl N kd fa fb) (hq : q ≤ 6) (hk : k ≤ 24) (hn : n ≤ 9) (hm : 1 ≤ m ∧ m ≤ 3) (ht : t < 6) (hf : wfT cs) : ∀ (f j : Nat) {u9 u10 : Option Value} {S : ZSt} {Q : ZOut → ZSt → Prop}, zSh S → f + j = 10 ^ m → jWM S q N kd fa fb → jTM S t cs → zI S 130 34 = nI k → zI S 130 35 = nI t → (∀ S', zJ [130, 144, 145, 146, 147] S S' → zK36 S S' → Q (.inl (some (.int (fL (fun i => kp N kd fa fb k cs (dgt 10 m i)) ((List.range' j f).filter (okf n 3)))))) (zsI S' 130 34 (- nI 1))) → zW 4 m_M_kept 78 [some (.ref 130), some (.int (nI q)), some (.int (nI t)), some (.int (nI k)), some (.int (nI m)), some (.int (nI n)), some (.int (nI (10 ^ m))), some (.int (- nI 1)), some (.int (nI j)), u9, u10] [] S Q
  | 0, j, u9, u10, S, Q, hS, hj, hw, hT, e34, e35, hQ => by
    have hp : 10 ^ m ≤ 10 ^ 3 := Nat.pow_le_pow_right (by omega) hm.2
    exact b_M_kept_78 hS ⟨fun _ => hQ S zJ.rf (fun _ _ _ => rfl), fun h9 => absurd (nI_le (by omega) (by omega)) h9⟩
  | f + 1, j, u9, u10, S, Q, hS, hj, hw, hT, e34, e35, hQ => by
    have hp : 10 ^ m ≤ 10 ^ 3 := Nat.pow_le_pow_right (by omega) hm.2
    rw [flt_s] at hQ
    refine b_M_kept_78 hS ⟨fun h9 => absurd h9 (nI_ge (by omega) (by omega)), fun _ => ⟨fun h9 => absurd rfl h9, fun _ => w_M_kp_88 hS hn 3 j true (by omega) (by omega) ?_⟩⟩
    rw [Bool.true_and]
    cases hb : okf n 3 j with
    | false =>
      refine b_M_kept_88 hS ⟨fun _ => ⟨fun h9 => absurd (by decide) h9, fun _ => ?_⟩, fun h9 => absurd (by decide) h9⟩
      rw [nI_add]
      rw [hb, if_neg (by decide)] at hQ
      exact w_M_kept_78 hW hA hq hk hn hm ht hf f (j + 1) hS (by omega) hw hT e34 e35 hQ
    | true =>
      refine b_M_kept_88 hS ⟨fun _ => ⟨fun _ => ?_, fun h9 => absurd (by decide) h9⟩, fun h9 => absurd (by decide) h9⟩
      rw [hb, if_pos rfl] at hQ
      refine w_M_fromNumber (by omega) (by omega) hS (fun S1 j1 g1 g2 => b_M_kept_113 (j1.sh hS) ?_)
      have hS1 := j1.sh hS
      refine w_M_goesK (k := k) hW hA hq hk ht hf hS1 (hw.J j1 rfl) (hT.J j1 rfl rfl) (by rw [j1.2 130 rfl]; exact e34) (by rw [j1.2 130 rfl]; exact e35) g1 g2 (fun S2 j2 s2 e36 => b_M_kept_119 (j2.sh hS1) ?_)
      have hS2 := j2.sh hS1
      have j12 : zJ [130, 144, 145, 146, 147] S S2 := (zJ3 j1 (zsub_of rfl)).tr (zJ3 j2 (zsub_of rfl))
      have s12 : zK36 S S2 := fun i a b => by rw [s2 i a b, j1.2 130 rfl]
      have e : fL (fun i => kp N kd fa fb k cs (dgt 10 m i)) (j :: (List.range' (j + 1) f).filter (okf n 3)) = if kp N kd fa fb k cs (dgt 10 m j) = true then fL (fun i => kp N kd fa fb k cs (dgt 10 m i)) ((List.range' (j + 1) f).filter (okf n 3)) else nI j := rfl
      rw [e] at hQ
      rw [e36, nI_add]
      cases hbb : kpt N kd fa fb k cs (dgt 10 m j) 2000 (dgt 10 m j) z0 0 with
      | true =>
        refine ⟨fun _ => ?_, fun h9 => absurd (by decide) h9⟩
        rw [if_pos (show kp N kd fa fb k cs (dgt 10 m j) = true from hbb)] at hQ
        exact w_M_kept_78 hW hA hq hk hn hm ht hf f (j + 1) hS2 (by omega) (hw.J j12 rfl) (hT.J j12 rfl rfl) ((s12 34 (by omega) (by omega)).trans e34) ((s12 35 (by omega) (by omega)).trans e35) (fun S' j' s' => hQ S' (j12.tr j') (s12.tr s'))
      | false =>
        refine ⟨fun h9 => absurd (by decide) h9, fun _ => ?_⟩
        rw [if_neg (by show ¬ kpt N kd fa fb k cs (dgt 10 m j) 2000 (dgt 10 m j) z0 0 = true; rw [hbb]; decide)] at hQ
        exact b_M_kept_78 hS2 ⟨fun _ => hQ S2 j12 s12, fun _ => ⟨fun _ => hQ S2 j12 s12, fun h9 => absurd (nI_m1 (by omega)) h9⟩⟩
theorem w_M_kept_65 {q t k m n : Nat} (hm : m ≤ 3) : ∀ (f i : Nat) {S : ZSt} {Q : ZOut → ZSt → Prop}, zSh S → f + i = m → zW 4 m_M_kept 78 [some (.ref 130), some (.int (nI q)), some (.int (nI t)), some (.int (nI k)), some (.int (nI m)), some (.int (nI n)), some (.int (nI (10 ^ m))), some (.int (- nI 1)), some (.int (nI 0)), none, none] [] S Q → zW 4 m_M_kept 65 [some (.ref 130), some (.int (nI q)), some (.int (nI t)), some (.int (nI k)), some (.int (nI m)), some (.int (nI n)), some (.int (nI (10 ^ i))), some (.int (nI i)), none, none, none] [] S Q
  | 0, i, S, Q, hS, hi, h => by
    obtain rfl : i = m := by omega
    exact b_M_kept_65 hS ⟨fun _ => h, fun h9 => absurd (nI_le (Nat.le_refl _) (by omega)) h9⟩
  | f + 1, i, S, Q, hS, hi, h => by
    refine b_M_kept_65 hS ⟨fun h9 => absurd h9 (nI_ge (by omega) (by omega)), fun _ => ?_⟩
    rw [nI_add, pk_mul, ← Nat.pow_succ]
    exact w_M_kept_65 hm f (i + 1) hS (by omega) h
