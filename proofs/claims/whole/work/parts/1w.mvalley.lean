/-! A VALLEY's text: the reference's side -/
def zMv (S S' : ZSt) : Prop := zJ [130, 135] S S' ∧ ∀ j, zmem j [7, 8, 9, 11] = false → zI S' 130 j = zI S 130 j
theorem zMv.rf {S : ZSt} : zMv S S := ⟨zJ.rf, fun _ _ => rfl⟩
theorem zMv.tr {S S1 S2 : ZSt} (h1 : zMv S S1) (h2 : zMv S1 S2) : zMv S S2 := ⟨h1.1.tr h2.1, fun j hj => (h2.2 j hj).trans (h1.2 j hj)⟩
theorem zKB.v {S S' : ZSt} (h : zKB S S') : zMv S S' := ⟨⟨h.1.1, fun c hc => h.1.2 c (zsub_of rfl c hc)⟩, fun j hj => h.2 j (fun e => by rw [e] at hj; cases hj) (fun e => by rw [e] at hj; cases hj) (fun e => by rw [e] at hj; cases hj)⟩
theorem zMv.T {S : ZSt} {i : Nat} {v : Int32} : zMv S (zsI S 135 i v) := ⟨zJ.rf.I rfl, fun j _ => by rw [zI_ne _ _ (by omega)]⟩
theorem jMx.V {S S' : ZSt} {b : Nat → Nat} {e : Nat} (h : jMx S b e) (j : zMv S S') : jMx S' b e := h.K (j.2 6 rfl) (j.1.2 134 rfl)
theorem jBd.c {S S' : ZSt} {k t : Nat} (h : jBd S k t) (e : zI S' 130 = zI S 130) : jBd S' k t := by
  unfold jBd
  rw [e]
  exact h
/-- the reference ends with a fault -/
theorem w_M_result0 {k t : Nat} {v : Int32} {S : ZSt} {Q : ZOut → ZSt → Prop} (hS : zSh S) (h : jBd S k t) (hk : 1 ≤ k ∧ k ≤ 4) (ht : t < 1000) (hQ : Q (.inl (some (.int (nI k - nI 10)))) (zsI S 130 11 (nI t))) : zC m_M_result [.ref 130, .int v] S Q := by
  refine b_M_result hS ?_
  rw [h.1]
  refine w_M_fine0 (((zJ.rf (l := [130])).I rfl).sh hS) (k := k) (t := t) ⟨by rw [zI_o (by omega)]; exact h.1, by rw [zI_o (by omega)]; exact h.2⟩ ht (b_M_result_6 (((zJ.rf (l := [130])).I rfl).sh hS) ⟨fun _ => ?_, fun h9 => absurd rfl h9⟩)
  rw [zI_o (by omega), h.2]
  exact hQ
theorem w_M_result1 {v : Int32} {S : ZSt} {Q : ZOut → ZSt → Prop} (hS : zSh S) (h : jFn S) (hQ : Q (.inl (some (.int v))) (zsI S 130 11 (- nI 1))) : zC m_M_result [.ref 130, .int v] S Q := by
  refine b_M_result hS ?_
  rw [h]
  exact w_M_fine1 (((zJ.rf (l := [130])).I rfl).sh hS) (by unfold jFn; rw [zI_o (by omega)]; exact h) (b_M_result_6 (((zJ.rf (l := [130])).I rfl).sh hS) ⟨fun h9 => absurd h9 (by decide), fun _ => hQ⟩)
theorem w_M_va_end {k t : Nat} {x1 x2 x3 : Int32} {u4 : Option Value} {S : ZSt} {Q : ZOut → ZSt → Prop} (hS : zSh S) (h : jBd S k t) (hk : 1 ≤ k ∧ k ≤ 4) (ht : t < 1000) (hQ : Q (.inl (some (.int (nI k - nI 10)))) (zsI S 130 11 (nI t))) : zcl 7 m_M_valley m_M_fine 295 166 [some (.ref 130), some (.int x1), some (.int x2), some (.int x3), u4] [] [.ref 130] S Q :=
  w_M_fine0 hS h ht (b_M_valley_167 hS ⟨fun _ => w_M_result0 hS h hk ht (b_M_valley_198 (((zJ.rf (l := [130])).I rfl).sh hS) hQ), fun h9 => absurd rfl h9⟩)
theorem w_M_va_bad {k t : Nat} {x1 x2 x3 : Int32} {u4 : Option Value} {S : ZSt} {Q : ZOut → ZSt → Prop} (hS : zSh S) (h : jBd S k t) (hk : 1 ≤ k ∧ k ≤ 4) (ht : t < 1000) (hQ : Q (.inl (some (.int (nI k - nI 10)))) (zsI S 130 11 (nI t))) : zW 7 m_M_valley 56 [some (.ref 130), some (.int x1), some (.int x2), some (.int x3), u4] [] S Q :=
  b_M_valley_56 hS (w_M_fine0 hS h ht (b_M_valley_58 hS ⟨fun _ => w_M_va_end hS h hk ht hQ, fun h9 => absurd rfl h9⟩))
def mkV (M : Nat) (sn : Nat → Nat) : Prop := M < 256 ∧ ∀ j, j < 6 → bit M j = sn j
theorem mkV.put {M i : Nat} {sn : Nat → Nat} (h : mkV M sn) (hi : i < 6) : mkV (Nat.lor M (2 ^ i)) (upN sn i 1) := by
  obtain ⟨c1, c2, c3, c4⟩ := chkM_at h.1 (show i < 8 by omega)
  refine ⟨c3, fun j hj => ?_⟩
  rw [c4 j (by omega)]
  unfold upN
  by_cases c : j = i
  · rw [if_pos c, if_pos c]
  · rw [if_neg c, if_neg c]
    exact h.2 j hj
theorem zTd.le {td : Nat → Nat} (h : zTd td) {i : Nat} (hi : i < 6) : td i ≤ 24 := by
  have := (h i hi).2
  unfold vmx vhi at this
  split at this
  · split at this
    · omega
    · split at this <;> omega
  · omega
theorem w_M_va_170 {td : Nat → Nat} {x1 x2 x3 : Int32} {Q : ZOut → ZSt → Prop} : ∀ (f k : Nat) {S : ZSt}, f + k = 6 → zSh S → jRw S 135 td → (∀ j, j < k → zI S 132 j = nI (td j)) → (∀ S', zJ [132] S S' → (∀ j, 6 ≤ j → zI S' 132 j = zI S 132 j) → (∀ j, j < 6 → zI S' 132 j = nI (td j)) → zW 7 m_M_valley 185 [some (.ref 130), some (.int x1), some (.int x2), some (.int x3), some (.int (nI 6))] [] S' Q) → zW 7 m_M_valley 170 [some (.ref 130), some (.int x1), some (.int x2), some (.int x3), some (.int (nI k))] [] S Q
  | 0, k, S, hf, hS, hd, h0, hQ => b_M_valley_170 hS ⟨fun _ => hQ S zJ.rf (fun _ _ => rfl) (fun j hj => h0 j (by omega)), fun h9 => absurd (nI_le (show 6 ≤ k by omega) (by omega)) h9⟩
  | f + 1, k, S, hf, hS, hd, h0, hQ => by
    refine b_M_valley_170 hS ⟨fun h9 => absurd h9 (nI_ge (by omega) (by omega)), fun _ => ⟨zin (by omega) (by omega), zin (by omega) (by omega), ?_⟩⟩
    rw [zcl9 (by omega), hd k (by omega), nI_add]
    have j1 : zJ [132] S (zsI S 132 k (nI (td k))) := zJ.rf.I rfl
    refine w_M_va_170 f (k + 1) (by omega) (j1.sh hS) (hd.c (zI_ne _ _ (by omega))) (fun j hj => ?_) (fun S' j' a b => hQ S' (j1.tr j') (fun j hj => (a j hj).trans (zI_o (by omega))) b)
    by_cases c : j = k
    · rw [c, zI_s]
    · rw [zI_o c]
      exact h0 j (by omega)
theorem w_M_va_185 {x1 x2 x3 : Int32} {Q : ZOut → ZSt → Prop} : ∀ (f k : Nat) {S : ZSt}, f + k = 83 → 6 ≤ k → zSh S → jFn S → (∀ j, 6 ≤ j → j < k → zI S 132 j = nI 0) → (∀ S', zJ [130, 132] S S' → (∀ j, j ≠ 11 → zI S' 130 j = zI S 130 j) → zI S' 130 11 = - nI 1 → (∀ j, j < 6 ∨ 83 ≤ j → zI S' 132 j = zI S 132 j) → (∀ j, 6 ≤ j → j < 83 → zI S' 132 j = nI 0) → Q (.inl (some (.int x3))) S') → zW 7 m_M_valley 185 [some (.ref 130), some (.int x1), some (.int x2), some (.int x3), some (.int (nI k))] [] S Q
  | 0, k, S, hf, hk, hS, hfn, h0, hQ => by
    refine b_M_valley_185 hS ⟨fun _ => w_M_result1 hS hfn (b_M_valley_198 (((zJ.rf (l := [130])).I rfl).sh hS) (hQ _ (zJ.rf.I rfl) (fun j hj => zI_o hj) zI_s (fun j hj => by rw [zI_ne _ _ (by omega)]) (fun j h1 h2 => by rw [zI_ne _ _ (by omega)]; exact h0 j h1 (by omega)))), fun h9 => absurd (nI_le (show 83 ≤ k by omega) (by omega)) h9⟩
  | f + 1, k, S, hf, hk, hS, hfn, h0, hQ => by
    refine b_M_valley_185 hS ⟨fun h9 => absurd h9 (nI_ge (by omega) (by omega)), fun _ => ⟨zin (by omega) (by omega), ?_⟩⟩
    rw [zcl9 (by omega), nI_add]
    have j1 : zJ [130, 132] S (zsI S 132 k (nI 0)) := zJ.rf.I rfl
    have e0 : zI (zsI S 132 k (nI 0)) 130 = zI S 130 := zI_ne _ _ (by omega)
    refine w_M_va_185 f (k + 1) (by omega) (by omega) (j1.sh hS) (by unfold jFn; rw [e0]; exact hfn) (fun j h1 h2 => ?_) (fun S' j' a a11 c d => hQ S' (j1.tr j') (fun j hj => by rw [a j hj, e0]) a11 (fun j hj => (c j hj).trans (zI_o (by omega))) d)
    by_cases c : j = k
    · rw [c, zI_s]
    · rw [zI_o c]
      exact h0 j h1 (by omega)
theorem ixN_pos : ∀ (l : List Nat) (w k i : Nat), l.all (fun c => Nat.blt 0 c) = true → ixN l w k = some i → 0 < w
  | [], w, k, i, h, hi => by cases hi
  | c :: r, w, k, i, h, hi => by
    have h' : (Nat.blt 0 c && r.all (fun c => Nat.blt 0 c)) = true := h
    obtain ⟨h1, h2⟩ := zand h'
    have e2 : ixN (c :: r) w k = if w = c then some k else ixN r w (k + 1) := rfl
    rw [e2] at hi
    by_cases e : w = c
    · have : 0 < c := Nat.le_of_ble_eq_true h1
      omega
    · rw [if_neg e] at hi
      exact ixN_pos r w (k + 1) i h2 hi
theorem tkW_pos {b : Nat → Nat} {e p : Nat} (h : 0 < tkW b e p) : tkK b e p = 1 := by
  rw [tkW_eq] at h
  by_cases c : rnE b e 1 (e - tkS b e p) (tkS b e p) - tkS b e p = 0
  · rw [c] at h
    rw [if_pos (show 0 ≤ 6 by omega)] at h
    exact absurd h (Nat.lt_irrefl 0)
  · have hge := rnE_ge (b := b) (e := e) (kd := 1) (e - tkS b e p) (tkS b e p)
    have k1 := rnE_k (b := b) (e := e) (kd := 1) (e - tkS b e p) (tkS b e p) (tkS b e p) (Nat.le_refl _) (by omega)
    unfold tkK
    rw [if_pos (by omega)]
    exact k1
theorem sW21_p : (sW 21).all (fun c => Nat.blt 0 c) = true := by decide +kernel
theorem sW23_p : (sW 23).all (fun c => Nat.blt 0 c) = true := by decide +kernel
def zMe (S S' : ZSt) : Prop := zJ [130, 132, 135] S S' ∧ ∀ j, zmem j [7, 8, 9, 11] = false → zI S' 130 j = zI S 130 j
theorem zMv.e {S S1 S2 : ZSt} (h1 : zMv S S1) (h2 : zMe S1 S2) : zMe S S2 := ⟨(zJ.tr (l := [130, 132, 135]) ⟨h1.1.1, fun c hc => h1.1.2 c (zsub_of rfl c hc)⟩ h2.1), fun j hj => (h2.2 j hj).trans (h1.2 j hj)⟩
theorem w_M_va_56 {b : Nat → Nat} {e : Nat} {x1 : Int32} {Q : ZOut → ZSt → Prop} : ∀ (f m p M : Nat) (sn td : Nat → Nat) {u4 : Option Value} {S : ZSt}, f + m = 7 → zSh S → zCst S → jMx S b e → p ≤ e → zI S 130 7 = nI p → jFn S → mkV M sn → zSn sn m → jRw S 135 td → zTd td → (∀ k t, vlp b e f p sn td m = .inl (k, t) → ∀ S', zMv S S' → zI S' 130 11 = nI t → Q (.inl (some (.int (nI k - nI 10)))) S') → (∀ d c, vlp b e f p sn td m = .inr (d, c) → ∀ S', zMe S S' → zI S' 130 11 = - nI 1 → (∀ j, j < 6 → zI S' 132 j = nI (d j)) → (∀ j, 6 ≤ j → j < 83 → zI S' 132 j = nI 0) → (∀ j, 83 ≤ j → zI S' 132 j = zI S 132 j) → Q (.inl (some (.int (nI c)))) S') → zW 7 m_M_valley 56 [some (.ref 130), some (.int x1), some (.int (nI M)), some (.int (nI m)), u4] [] S Q
  | 0, m, p, M, sn, td, u4, S, hf, hS, hC, hx, hp, h7, hfn, hM, hn, hd, hz, bad, ok => by
    have := hn.le
    omega
  | f + 1, m, p, M, sn, td, u4, S, hf, hS, hC, hx, hp, h7, hfn, hM, hn, hd, hz, bad, ok => by
    have he := hx.1
    have hm := hn.le
    obtain ⟨s1, s2⟩ := tkS_le (b := b) hp
    rw [vlp_s] at bad ok
    refine b_M_valley_56 hS (w_M_fine1 hS hfn (b_M_valley_58 hS ⟨fun h9 => absurd h9 (by decide), fun _ => w_M_isMore hS hx hp h7 (fun lt S1 j1 a1 => b_M_valley_61 (j1.sh hS) ⟨fun h9 => absurd h9 (by decide), fun _ => ?_⟩) (fun eq S1 j1 a1 => b_M_valley_61 (j1.sh hS) ⟨fun _ => w_M_fine1 (j1.sh hS) (hfn.K j1) (b_M_valley_167 (j1.sh hS) ⟨fun h9 => absurd h9 (by decide), fun _ => ?_⟩), fun h9 => absurd rfl h9⟩)⟩))
    · have kne : tkK b e p ≠ 0 := fun z => by
        have := (tkK_0 hp).mp z
        omega
      rw [if_neg kne] at bad ok
      have hS1 := j1.sh hS
      refine w_M_word hS1 (hx.J j1) s2 a1 (fun S2 j2 a2 => b_M_valley_64 (j2.sh hS1) ?_)
      have hS2 := j2.sh hS1
      have J2 := j1.tr j2
      have hx2 := hx.J J2
      have hf2 := hfn.K J2
      have hC2 := hC.J J2.1 rfl
      rw [(tk_S hp).2.2.2.1]
      rw [tkS_tkS hp] at a2
      refine w_M_valleyWord tkW_lt hS2 hC2 (b_M_valley_65 hS2 ?_)
      obtain ⟨w1, w2⟩ := wix_N (sW 21) (tkW b e p) 0
      rw [w1]
      -- a fault
      have flt : ∀ (k t : Nat) (S3 : ZSt), zMv S S3 → jBd S3 k t → vcl b e p sn = .inl (k, t) → Q (.inl (some (.int (nI k - nI 10)))) (zsI S3 130 11 (nI t)) := fun k t S3 k1 k2 k3 => by
        rw [k3] at bad
        exact bad k t rfl _ ⟨k1.1.I rfl, fun j hj => by rw [zI_o (fun e => by rw [e] at hj; cases hj)]; exact k1.2 j hj⟩ zI_s
      cases hi : ixN (sW 21) (tkW b e p) 0 with
      | none =>
        refine ⟨fun h9 => absurd rfl h9, fun _ => ?_⟩
        rw [a2]
        exact w_M_wrong hS2 hf2 (fun S3 j3 d3 => b_M_valley_74 (j3.sh hS2) (w_M_fine0 (j3.sh hS2) d3 (by omega) (b_M_valley_98 (j3.sh hS2) ⟨fun h9 => absurd rfl h9, fun _ => w_M_va_end (j3.sh hS2) d3 (by omega) (by omega) (flt 1 _ S3 (J2.B.tr j3).v d3 (vcl_n hi))⟩)))
      | some i =>
        have i6 : i < 6 := by
          have := w2 i hi
          rw [sW21] at this
          omega
        have V := vcl_s (b := b) (e := e) (p := p) (sn := sn) hi
        obtain ⟨c1, c2, c3, -⟩ := chkM_at hM.1 (show i < 8 by omega)
        have hsi := hn.1 i i6
        refine ⟨fun _ => ⟨fun _ => ?_, fun h9 => absurd (fun z => by have := nEq (by omega) (by omega) z; omega) h9⟩, fun h9 => absurd (nI_m1 (by omega)) h9⟩
        show (¬ (zShr (nI M) (nI i) &&& nI 1) = nI 1 → _) ∧ (¬ (¬ (zShr (nI M) (nI i) &&& nI 1) = nI 1) → _)
        rw [c1, hM.2 i i6]
        refine ⟨fun h9 => ?_, fun h9 => ?_⟩
        · have s0 : sn i = 0 := by
            have : sn i ≠ 1 := fun z => h9 (by rw [z])
            omega
          rw [if_neg (show ¬ sn i = 1 by omega)] at V
          have k1 : tkK b e p = 1 := tkW_pos (ixN_pos _ _ _ _ sW21_p hi)
          refine w_M_fine1 hS2 hf2 (b_M_valley_98 hS2 ⟨fun _ => w_M_pass hS2 hx2 hp a2 k1 (fun S4 j4 a4 => b_M_valley_102 (j4.sh hS2) ?_), fun h8 => absurd (by decide) h8⟩)
          have hS4 := j4.sh hS2
          have J4 := J2.tr j4
          have hx4 := hx.J J4
          have hf4 := hfn.K J4
          have hp4 := tkE_le (b := b) hp
          have hd4 : jRw S4 135 td := hd.c (J4.1.2 135 rfl)
          -- the end of a clause
          have sg : ∀ (v q : Nat) (S5 : ZSt), zK7 S S5 → q ≤ e → zI S5 130 7 = nI q → vlo i ≤ v ∧ v ≤ vmx i → (hr b e q = 59 → vcl b e p sn = .inr (i, v, tkE b e q)) → (¬ hr b e q = 59 → vcl b e p sn = .inl (1, tkS b e q)) → zcl 7 m_M_valley m_M_sign 285 162 [some (.ref 130), some (.int x1), some (.int (nI (Nat.lor M (2 ^ i)))), some (.int (nI m)), some (.int (nI i))] [] [.ref 130, .int (nI 59)] (zsI S5 135 i (nI v)) Q := fun v q S5 k2 k3 k4 k5 k6 k7 => by
            have hS5 := k2.sh hS
            have j6 : zMv S5 (zsI S5 135 i (nI v)) := zMv.T
            have J6 := (k2.B.v).tr j6
            have hS6 := j6.1.sh hS5
            have e130 : zI (zsI S5 135 i (nI v)) 130 = zI S5 130 := zI_ne _ _ (by omega)
            have hx6 := (hx.J k2).V j6
            have hf6 : jFn (zsI S5 135 i (nI v)) := by
              unfold jFn
              rw [e130]
              exact hfn.K k2
            have hq := tkS_le (b := b) k3
            refine w_M_sign (by omega) hS6 hx6 k3 (by rw [e130]; exact k4) hf6 (fun h8 S7 j7 a7 => b_M_valley_163 (j7.sh hS6) ?_) (fun h8 S7 j7 d7 => b_M_valley_163 (j7.sh hS6) (w_M_va_bad (j7.sh hS6) d7 (by omega) (by omega) (flt 1 _ S7 (J6.tr j7.v) d7 (k7 h8))))
            have V2 := k6 h8
            rw [V2] at bad ok
            have e7 : tkE b e q = tkS b e q + 1 := tkE_3 ((hr_is (by rfl) (by omega)).mp h8).1
            have hpos := vcl_r V2
            rw [nI_add]
            have J7 := J6.tr j7.B.v
            refine w_M_va_56 f (m + 1) (tkE b e q) (Nat.lor M (2 ^ i)) (upN sn i 1) (upN td i v) (by omega) (j7.sh hS6) (hC.J J7.1 rfl) (hx.V J7) (tkE_le k3) (by rw [e7]; exact a7) (hf6.K j7) (hM.put i6) (hn.put i6 s0) ?_ (hz.put k5) (fun k t h S' j a => bad k t h S' (J7.tr j) a) (fun d c h S' j a11 a b' c' => ok d c h S' (J7.e j) a11 a b' (fun j hj => (c' j hj).trans (by rw [J7.1.2 132 rfl])))
            refine jRw.c ?_ (j7.1.2 135 rfl)
            exact (hd.c (k2.1.2 135 rfl)).put
          -- a number that is none such
          have sb : ∀ (k t : Nat) (v : Int32) (S5 : ZSt), zKB S S5 → jBd S5 k t → 1 ≤ k ∧ k ≤ 4 → t ≤ 400 → vcl b e p sn = .inl (k, t) → zcl 7 m_M_valley m_M_sign 285 162 [some (.ref 130), some (.int x1), some (.int (nI (Nat.lor M (2 ^ i)))), some (.int (nI m)), some (.int (nI i))] [] [.ref 130, .int (nI 59)] (zsI S5 135 i v) Q := fun k t v S5 k2 k3 k4 k5 k6 => by
            have hS5 := k2.sh hS
            have j6 : zMv S5 (zsI S5 135 i v) := zMv.T
            have hS6 := j6.1.sh hS5
            have d6 : jBd (zsI S5 135 i v) k t := k3.c (zI_ne _ _ (by omega))
            exact w_M_sign0 hS6 d6 (by omega) (b_M_valley_163 hS6 (w_M_va_bad hS6 d6 k4 (by omega) (flt k t _ (k2.v.tr j6) d6 k6)))
          have q1 := tkS_le (b := b) hp4
          have q2 := tkE_le (b := b) hp4
          rw [c2]
          have rn : ∀ (lo hi pc ix : Nat), i < 4 → lo = vlo i → hi = vhi i → (∀ (s0 : Int32) (S' : ZSt), zSh S' → (vp_in (nI i) 6 ∧ zcl 7 m_M_valley m_M_sign 285 162 [some (.ref 130), some (.int x1), some (.int (nI (Nat.lor M (2 ^ i)))), some (.int (nI m)), some (.int (nI i))] [] [.ref 130, .int (nI 59)] (zsI S' 135 ((nI i).toNatClampNeg) s0) Q) → zW 7 m_M_valley (ix + 1) [some (.ref 130), some (.int x1), some (.int (nI (Nat.lor M (2 ^ i)))), some (.int (nI m)), some (.int (nI i))] [.int s0, .int (nI i), .ref 135] S' Q) → zcl 7 m_M_valley m_M_readNumber pc ix [some (.ref 130), some (.int x1), some (.int (nI (Nat.lor M (2 ^ i)))), some (.int (nI m)), some (.int (nI i))] [.int (nI i), .ref 135] [.ref 130, .int (nI lo), .int (nI hi)] S4 Q := fun lo hi pc ix i4 l1 l2 K => by
            rw [if_pos i4] at V
            have hb : lo ≤ 24 ∧ hi ≤ 24 := by
              obtain ⟨-, -, m3, m4⟩ := vlm i i4
              omega
            rw [zcl9 (by omega)] at K
            refine w_M_readNumber (by rw [Bool.and_eq_true]; exact ⟨Nat.ble_eq_true_of_le (by omega), Nat.ble_eq_true_of_le (by omega)⟩) hS4 hx4 hp4 a4 hf4 (fun g1 g2 g3 S5 j5 a5 => K _ S5 (j5.sh hS4) ⟨zin i6 (by omega), ?_⟩) (fun g1 S5 j5 d5 => K _ S5 (j5.sh hS4) ⟨zin i6 (by omega), sb 1 _ _ S5 (J4.B.tr j5) d5 (by omega) (by omega) ?_⟩) (fun g1 g2 S5 j5 d5 => K _ S5 (j5.sh hS4) ⟨zin i6 (by omega), sb 2 _ _ S5 (J4.B.tr j5) d5 (by omega) (by omega) ?_⟩)
            · rw [l1] at g2
              rw [l2] at g3
              rw [if_pos g1, if_pos ⟨g2, g3⟩] at V
              exact sg _ (tkE b e (tkE b e p)) S5 (J4.tr j5) q2 a5 ⟨g2, by unfold vmx; rw [if_pos i4]; exact g3⟩ (fun h7 => by rw [if_pos h7] at V; exact V) (fun h7 => by rw [if_neg h7] at V; exact V)
            · rw [if_neg g1] at V
              exact V
            · rw [l1, l2] at g2
              rw [if_pos g1, if_neg g2] at V
              exact V
          by_cases i4 : i < 4
          · rcases (show i = 0 ∨ i = 1 ∨ i = 2 ∨ i = 3 by omega) with e0 | e0 | e0 | e0 <;> subst e0
            · exact ⟨fun h => absurd (by decide) h, fun _ => rn 1 12 199 116 (by omega) rfl rfl (fun s0 S' h k => b_M_valley_117 h k)⟩
            · exact ⟨fun _ => ⟨fun h => absurd rfl h, fun _ => rn 0 24 222 128 (by omega) rfl rfl (fun s0 S' h k => b_M_valley_129 h k)⟩, fun h => absurd (by decide) h⟩
            · exact ⟨fun _ => ⟨fun _ => ⟨fun h => absurd rfl h, fun _ => rn 1 24 245 140 (by omega) rfl rfl (fun s0 S' h k => b_M_valley_141 h k)⟩, fun h => absurd (by decide) h⟩, fun h => absurd (by decide) h⟩
            · exact ⟨fun _ => ⟨fun _ => ⟨fun _ => ⟨fun h => absurd rfl h, fun _ => rn 0 3 267 152 (by omega) rfl rfl (fun s0 S' h k => b_M_valley_153 h k)⟩, fun h => absurd (by decide) h⟩, fun h => absurd (by decide) h⟩, fun h => absurd (by decide) h⟩
          · rw [if_neg i4] at V
            rw [zcl9 (by omega)]
            have ne : ∀ j, j < 4 → ¬ nI i = nI j := fun j hj z => by
              have := nEq (by omega) (by omega) z
              omega
            exact ⟨fun _ => ⟨fun _ => ⟨fun _ => ⟨fun _ => ⟨zin i6 (by omega), sg 1 (tkE b e p) S4 J4 hp4 a4 ⟨by unfold vlo; rw [if_neg (by omega)]; omega, by unfold vmx; rw [if_neg i4]; omega⟩ (fun h7 => by rw [if_pos h7] at V; exact V) (fun h7 => by rw [if_neg h7] at V; exact V)⟩, fun h => absurd (ne 3 (by omega)) h⟩, fun h => absurd (ne 2 (by omega)) h⟩, fun h => absurd (ne 1 (by omega)) h⟩, fun h => absurd (ne 0 (by omega)) h⟩
        · have s1' : sn i = 1 := nEq (by omega) (by omega) (Classical.not_not.mp h9)
          rw [if_pos s1'] at V
          rw [a2]
          exact w_M_wrong hS2 hf2 (fun S3 j3 d3 => b_M_valley_96 (j3.sh hS2) (w_M_fine0 (j3.sh hS2) d3 (by omega) (b_M_valley_98 (j3.sh hS2) ⟨fun h9 => absurd rfl h9, fun _ => w_M_va_end (j3.sh hS2) d3 (by omega) (by omega) (flt 4 _ S3 (J2.B.tr j3).v d3 V)⟩)))
    · have k0 : tkK b e p = 0 := (tkK_0 hp).mpr eq
      rw [if_pos k0] at ok
      have hS1 := j1.sh hS
      refine w_M_va_170 6 0 (by omega) hS1 (hd.c (j1.1.2 135 rfl)) (fun j hj => absurd hj (Nat.not_lt_zero j)) (fun S2 j2 a2 b2 => w_M_va_185 77 6 (by omega) (by omega) (j2.sh hS1) ?_ (fun j h1 h2 => by omega) (fun S3 j3 a3 a11 c3 d3 => ok td m rfl S3 ⟨?_, fun j hj => ?_⟩ a11 (fun j hj => (c3 j (by omega)).trans (b2 j hj)) d3 (fun j hj => ?_)))
      · unfold jFn
        rw [j2.2 130 rfl]
        exact hfn.K j1
      · exact (zJ.tr (l := [130, 132, 135]) ⟨j1.1.1, fun c hc => j1.1.2 c (zsub_of rfl c hc)⟩ ((zJ.tr (l := [130, 132, 135]) ⟨j2.1, fun c hc => j2.2 c (zsub_of rfl c hc)⟩ ⟨j3.1, fun c hc => j3.2 c (zsub_of rfl c hc)⟩)))
      · rw [a3 j (fun e => by rw [e] at hj; cases hj), j2.2 130 rfl]
        exact j1.2 j (fun e => by rw [e] at hj; cases hj)
      · rw [c3 j (by omega), a2 j (by omega), j1.1.2 132 rfl]
