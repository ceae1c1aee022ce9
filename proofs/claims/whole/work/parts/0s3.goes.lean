/-! The reference's runs, act by act -/
theorem nI_m1 {x : Nat} (h : x < 2 ^ 31) : ¬ nI x = - nI 1 := by
  rw [zeq, nI_toInt h, ztn (k := 1) rfl]
  omega
def zK130 (S S' : ZSt) : Prop := ∀ j, (j < 29 ∨ 33 < j) → zI S' 130 j = zI S 130 j
theorem zK130.rf {S : ZSt} : zK130 S S := fun _ _ => rfl
theorem zK130.tr {S S1 S2 : ZSt} (h1 : zK130 S S1) (h2 : zK130 S1 S2) : zK130 S S2 := fun j hj => (h2 j hj).trans (h1 j hj)
theorem zK130.I {S S1 : ZSt} (h : zK130 S S1) {k : Nat} {v : Int32} (hk : 29 ≤ k ∧ k ≤ 33) : zK130 S (zsI S1 130 k v) := fun j hj => by
  rw [zI_eq, upd_ne (by omega)]
  exact h j hj
theorem zI_o {S : ZSt} {a k j : Nat} {v : Int32} (h : j ≠ k) : zI (zsI S a k v) a j = zI S a j := by
  rw [zI_eq, upd_ne h]
theorem zI_s {S : ZSt} {a k : Nat} {v : Int32} : zI (zsI S a k v) a k = v := by
  rw [zI_eq, upd_self]
def zAl (n : Nat) (kd fa fb : Nat → Nat) : Prop := ∀ t, t < n → ∀ h p, nx (kd t) (fa t) (fb t) t h p ≤ n
/-- behind an act that was done -/
theorem w_M_goes_123 {n q : Nat} {kd fa fb : Nat → Nat} (hW : zWy n kd fa fb) (hA : zAl n kd fa fb) (hq : q ≤ 6) {m t lim : Nat} {h p : Nat → Nat} {k how x6 : Int32} {S : ZSt} {Q : ZOut → ZSt → Prop} (hS : zSh S) (hw : jWM S q n kd fa fb) (ht : t < n) (hk34 : zI S 130 34 = - nI 1)
    (hH : jN (zI S 146) 12 1000000000 h) (hP : jN (zI S 147) 24 3 p) (e31 : zI S 130 31 = nI t) (e30 : zI S 130 30 = nI m) (e29 : zI S 130 29 = nI 3) (e32 : zI S 130 32 = nI 9) (e33 : zI S 130 33 = nI (nx (kd t) (fa t) (fb t) t h p))
    (hend : ∀ S', zJ [130, 146, 147] S S' → zK130 S S' → (mvr n (kd t) (fa t) (fb t) t h p).2.1 < 3 → jQ S' (h, p, (mvr n (kd t) (fa t) (fb t) t h p).1, m + 1, (mvr n (kd t) (fa t) (fb t) t h p).2) → Q (.inl none) S')
    (hgo : ∀ S' x5 u6, zJ [130, 146, 147] S S' → zK130 S S' → (mvr n (kd t) (fa t) (fb t) t h p) = (nx (kd t) (fa t) (fb t) t h p, 3, 9) → nx (kd t) (fa t) (fb t) t h p < n → jQ S' (h, p, nx (kd t) (fa t) (fb t) t h p, m + 1, 3, 9) → zW 3 m_M_goes 44 [some (.ref 130), some (.int (nI q)), some (.int (nI lim)), some (.int k), some (.int how), some (.int x5), u6] [] S' Q) :
    zW 3 m_M_goes 123 [some (.ref 130), some (.int (nI q)), some (.int (nI lim)), some (.int k), some (.int how), some (.int (nI (24 * q + t))), some (.int x6)] [] S Q := by
  obtain ⟨k1, k2, k3⟩ := hw.2 t ht
  have hn := hW.2.1
  obtain ⟨hk1, -, -, -, hk5, -, -⟩ := hW.2.2 t ht
  have hi : vp_in (nI (24 * q + t)) 168 := zin (by omega) (by omega)
  have hc : (nI (24 * q + t)).toNatClampNeg = 24 * q + t := zcl9 (by omega)
  refine b_M_goes_123 hS ?_
  rw [hc, k1, e30, nI_add]
  refine ⟨hi, fun e => ?_, fun h10 => ⟨hi, fun h11 => ?_, fun e => ?_⟩⟩
  · have k0 : kd t = 10 := nEq (by omega) (by omega) e
    have em : mvr n (kd t) (fa t) (fb t) t h p = (t, 1, fa t) := by
      unfold mvr
      rw [if_pos k0]
    rw [em] at hend
    refine b_M_goes_141 (S := zsI S 130 30 (nI (m + 1))) hS ?_
    rw [hc, zI_ne _ _ (by omega), zI_ne _ _ (by omega), k1, k2, eA_n (by omega)]
    refine ⟨hi, fun h9 => absurd e h9, fun _ => ⟨hi, fun h9 => absurd e h9, fun _ => ⟨hi, hend _ (((zJ.rf.I rfl).I rfl).I rfl) (((zK130.rf.I (by omega)).I (by omega)).I (by omega)) (show 1 < 3 by omega) ⟨hH, hP, ?_, ?_, ?_, ?_⟩⟩⟩⟩
    · rw [zI_o (by omega), zI_o (by omega), zI_o (by omega)]
      exact e31
    · rw [zI_o (by omega), zI_o (by omega), zI_s]
    · rw [zI_o (by omega), zI_s]
    · rw [zI_s]
  · have k0 : kd t ≠ 10 := fun e => h10 (by rw [e])
    have k0' : kd t ≠ 11 := fun e => h11 (by rw [e])
    have em : mvr n (kd t) (fa t) (fb t) t h p = (nx (kd t) (fa t) (fb t) t h p, if n ≤ nx (kd t) (fa t) (fb t) t h p then 0 else 3, 9) := by
      unfold mvr
      rw [if_neg k0, if_neg k0']
    have hle := hA t ht h p
    rw [em] at hend hgo
    rw [e33]
    generalize hx : nx (kd t) (fa t) (fb t) t h p = t' at *
    have j2 : zJ [130, 146, 147] S (zsI (zsI S 130 30 (nI (m + 1))) 130 31 (nI t')) := (zJ.rf.I rfl).I rfl
    have s2 : zK130 S (zsI (zsI S 130 30 (nI (m + 1))) 130 31 (nI t')) := (zK130.rf.I (by omega)).I (by omega)
    refine b_M_goes_30 (S := zsI (zsI S 130 30 (nI (m + 1))) 130 31 (nI t')) hS ?_
    rw [zI_s, s2 34 (by omega), hk34]
    refine ⟨fun _ => ?_, fun h9 => absurd (nI_m1 (by omega)) h9⟩
    by_cases hlt : t' < n
    · exact hgo _ _ _ j2 s2 (by rw [if_neg (by omega)]) hlt ⟨hH, hP, zI_s, (zI_o (by omega)).trans zI_s, ((zI_o (by omega)).trans (zI_o (by omega))).trans e29, ((zI_o (by omega)).trans (zI_o (by omega))).trans e32⟩
    · obtain rfl : t' = n := by omega
      rw [if_pos (by omega)] at hend
      refine b_M_goes_44 (S := zsI (zsI S 130 30 (nI (m + 1))) 130 31 (nI t')) hS ⟨zin (by omega) (by omega), fun h9 => absurd ?_ h9, fun _ => hend _ (j2.I rfl) (s2.I (by omega)) (show 0 < 3 by omega) ⟨hH, hP, ?_, ?_, ?_, ?_⟩⟩
      · rw [zI_s, zcl9 (by omega), zI_ne _ _ (by omega), zI_ne _ _ (by omega), hw.1]
      · rw [zI_o (by omega), zI_s]
      · rw [zI_o (by omega), zI_o (by omega), zI_s]
      · rw [zI_s]
      · rw [zI_o (by omega), zI_o (by omega), zI_o (by omega)]
        exact e32
  · have k0 : kd t = 11 := nEq (by omega) (by omega) (Classical.not_not.mp e)
    have em : mvr n (kd t) (fa t) (fb t) t h p = (t, 0, 9) := by
      unfold mvr
      rw [if_neg (by omega), if_pos k0]
    rw [em] at hend
    refine b_M_goes_141 (S := zsI S 130 30 (nI (m + 1))) hS ?_
    rw [hc, zI_ne _ _ (by omega), zI_ne _ _ (by omega), k1]
    refine ⟨hi, fun _ => ⟨hi, fun _ => hend _ (((zJ.rf.I rfl).I rfl).I rfl) (((zK130.rf.I (by omega)).I (by omega)).I (by omega)) (show 0 < 3 by omega) ⟨hH, hP, ?_, ?_, ?_, ?_⟩, fun h9 => absurd h10 h9⟩, fun h9 => absurd h10 h9⟩
    · rw [zI_o (by omega), zI_o (by omega), zI_o (by omega)]
      exact e31
    · rw [zI_o (by omega), zI_o (by omega), zI_s]
    · rw [zI_o (by omega), zI_s]
    · rw [zI_s]
theorem w_M_goes_44 {n q : Nat} {kd fa fb : Nat → Nat} (hW : zWy n kd fa fb) (hA : zAl n kd fa fb) (hq : q ≤ 6) {lim : Nat} {k how : Int32} : ∀ (f m t : Nat) (h p : Nat → Nat) {x5 : Int32} {u6 : Option Value} {S : ZSt} {Q : ZOut → ZSt → Prop}, zSh S → jWM S q n kd fa fb → t < n → m + f ≤ lim → lim ≤ 4000 → (∀ i, m ≤ i → i < m + f → ¬ nI i = k) → zI S 130 34 = - nI 1 → jQ S (h, p, t, m, 3, 9) →
    (∀ S', zJ [130, 146, 147] S S' → zK130 S S' → (go n kd fa fb f h p t m).2.2.2.2.1 < 3 → jQ S' (go n kd fa fb f h p t m) → Q (.inl none) S') →
    (∀ S' h' p' t' x5 u6, zJ [130, 146, 147] S S' → zK130 S S' → go n kd fa fb f h p t m = (h', p', t', m + f, 3, 9) → t' < n → jQ S' (h', p', t', m + f, 3, 9) → zW 3 m_M_goes 44 [some (.ref 130), some (.int (nI q)), some (.int (nI lim)), some (.int k), some (.int how), some (.int x5), u6] [] S' Q) →
    zW 3 m_M_goes 44 [some (.ref 130), some (.int (nI q)), some (.int (nI lim)), some (.int k), some (.int how), some (.int x5), u6] [] S Q
  | 0, m, t, h, p, x5, u6, S, Q, hS, hw, ht, hm, hl, hk, h34, hr, hend, hgo => hgo S h p t x5 u6 zJ.rf zK130.rf rfl ht hr
  | f + 1, m, t, h, p, x5, u6, S, Q, hS, hw, ht, hm, hl, hk, h34, hr, hend, hgo => by
    obtain ⟨hH, hP, e31, e30, e29, e32⟩ := hr
    have hn := hW.2.1
    have mk : ¬ nI m = k := hk m (by omega) (by omega)
    refine b_M_goes_44 hS ?_
    rw [zcl9 (by omega), hw.1, e31, e30, pk_mul, nI_add]
    refine ⟨zin (by omega) (by omega), fun _ => ⟨fun _ => ⟨fun _ => ?_, fun h9 => absurd mk h9⟩, fun h9 => absurd (fun e => ?_) h9⟩, fun h9 => absurd (fun e => ?_) h9⟩
    · refine b_M_goes_86 hS ?_
      rw [e30, e31, nI_add]
      refine ⟨fun _ => ?_, fun h9 => absurd mk h9⟩
      have j0 : zJ [130, 146, 147] S (zsI S 130 33 (nI (t + 1))) := zJ.rf.I rfl
      have s0 : zK130 S (zsI S 130 33 (nI (t + 1))) := zK130.rf.I (by omega)
      refine w_M_does (S := zsI S 130 33 (nI (t + 1))) (h := h) (p := p) hS hW (hw.J j0 rfl) hq ht hH hP zI_s (fun r hr S1 j1 s1 hh hp ej => ?_) (fun hr => ?_)
      · have jj := j0.tr j1
        have ss : zK130 S S1 := s0.tr (fun j hj => s1 j (by omega))
        refine b_M_goes_112 (jj.sh hS) ⟨fun h9 => absurd h9 (by decide), fun _ => ⟨fun _ => ?_, fun h9 => absurd (by decide) h9⟩⟩
        rw [go_s hr] at hend hgo
        refine w_M_goes_123 hW hA hq (m := m) (h := r.1) (p := r.2) (jj.sh hS) (hw.J jj rfl) ht ((ss 34 (by omega)).trans h34) hh hp ((s1 31 (by omega)).trans ((zI_o (by omega)).trans e31)) ((s1 30 (by omega)).trans ((zI_o (by omega)).trans e30)) ((s1 29 (by omega)).trans ((zI_o (by omega)).trans e29)) ((s1 32 (by omega)).trans ((zI_o (by omega)).trans e32)) ej (fun S' j s y1 y2 => ?_) (fun S' y5 y6 j s y1 y2 y3 => ?_)
        · rw [if_neg (by omega)] at hend
          exact hend S' (jj.tr j) (ss.tr s) y1 y2
        · rw [y1, if_pos rfl] at hend hgo
          refine w_M_goes_44 hW hA hq f (m + 1) _ r.1 r.2 ((jj.tr j).sh hS) (hw.J (jj.tr j) rfl) y2 (by omega) hl (fun i h1 h2 => hk i (by omega) (by omega)) (((ss.tr s) 34 (by omega)).trans h34) y3 (fun S2 j2 s2 z1 z2 => hend S2 ((jj.tr j).tr j2) ((ss.tr s).tr s2) z1 z2) (fun S2 h' p' t' w5 w6 j2 s2 z1 z2 z3 => ?_)
          rw [show m + 1 + f = m + (f + 1) by omega] at z1 z3
          exact hgo S2 h' p' t' w5 w6 ((jj.tr j).tr j2) ((ss.tr s).tr s2) z1 z2 z3
      · rw [go_n hr] at hend
        refine b_M_goes_112 hS ⟨fun _ => hend _ (j0.I rfl) (s0.I (by omega)) (show 2 < 3 by omega) ⟨hH, hP, ?_, ?_, ?_, ?_⟩, fun h9 => absurd (by decide) h9⟩
        · rw [zI_o (by omega), zI_o (by omega)]
          exact e31
        · rw [zI_o (by omega), zI_o (by omega)]
          exact e30
        · rw [zI_s]
        · rw [zI_o (by omega), zI_o (by omega)]
          exact e32
    · have := nEq (a := m) (b := lim) (by omega) (by omega) e
      omega
    · have := nEq (a := t) (b := n) (by omega) (by omega) e
      omega
