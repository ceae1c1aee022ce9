/-! trade: alike -/
abbrev TrS : Type := Int32 × Nat × Nat
/-- one round tried: the best so far, what it gets and gives -/
noncomputable def trX (G : Nat) (gv gt : Nat → Nat) (L D : Nat) (s : TrS) : TrS := by
  classical
  exact if rdP G L D ∧ tdP gv L D ∧ s.2.1 * prn gv L D L < prn gt L D L * s.2.2 then (nI D, prn gt L D L, prn gv L D L) else s
theorem trX_y {G L D : Nat} {gv gt : Nat → Nat} {s : TrS} (h : rdP G L D ∧ tdP gv L D ∧ s.2.1 * prn gv L D L < prn gt L D L * s.2.2) : trX G gv gt L D s = (nI D, prn gt L D L, prn gv L D L) := by
  unfold trX
  rw [if_pos h]
theorem trX_n {G L D : Nat} {gv gt : Nat → Nat} {s : TrS} (h : ¬ (rdP G L D ∧ tdP gv L D ∧ s.2.1 * prn gv L D L < prn gt L D L * s.2.2)) : trX G gv gt L D s = s := by
  unfold trX
  rw [if_neg h]
noncomputable def trD (G : Nat) (gv gt : Nat → Nat) (L : Nat) : Nat → Nat → TrS → TrS
  | 0, _, s => s
  | f + 1, D, s => trD G gv gt L f (D + 1) (trX G gv gt L D s)
noncomputable def trL (G : Nat) (gv gt : Nat → Nat) : Nat → Nat → TrS → TrS
  | 0, _, s => s
  | f + 1, L, s => trL G gv gt f (L + 1) (trD G gv gt L (8 ^ L) 0 s)
def okS (s : TrS) : Prop := s.2.1 ≤ 99 ^ 4 ∧ 1 ≤ s.2.2 ∧ s.2.2 ≤ 99 ^ 4
theorem prn_4 {f : Nat → Nat} {G L D : Nat} (hG : G ≤ 6) (hL : 2 ≤ L ∧ L ≤ 4) (hf : ∀ j, j < 36 → f j ≤ 99) (hr : rdP G L D) : prn f L D L ≤ 99 ^ 4 := by
  have h1 := prn_le (D := D) hf (fun i hi => cel_lt hG (by omega) hr hi) L (Nat.le_refl _)
  have h2 : 99 ^ L ≤ 99 ^ 4 := Nat.pow_le_pow_right (by omega) hL.2
  omega
theorem okS_x {G L D : Nat} {gv gt : Nat → Nat} {s : TrS} (hG : G ≤ 6) (hL : 2 ≤ L ∧ L ≤ 4) (h1 : ∀ j, j < 36 → gv j ≤ 99) (h2 : ∀ j, j < 36 → gt j ≤ 99) (hs : okS s) : okS (trX G gv gt L D s) := by
  by_cases h : rdP G L D ∧ tdP gv L D ∧ s.2.1 * prn gv L D L < prn gt L D L * s.2.2
  · rw [trX_y h]
    exact ⟨prn_4 hG hL h2 h.1, prn_pos h.2.1 L (Nat.le_refl _), prn_4 hG hL h1 h.1⟩
  · rw [trX_n h]
    exact hs
theorem lg_le {x y : Int64} : lg_cmp x y ≤ 0 ↔ x ≤ y := by
  rw [← Int32.not_lt, lg_gt, Int64.not_lt]
theorem mulb {a b : Nat} (ha : a ≤ 99 ^ 4) (hb : b ≤ 99 ^ 4) : a * b < 2 ^ 63 := by
  have := Nat.mul_le_mul ha hb
  have h2 : 99 ^ 4 * 99 ^ 4 < 2 ^ 63 := by decide
  omega
def trO (S : ZSt) (s : TrS) : Prop := zI S 125 4 = s.1 ∧ zL S 125 5 = lN s.2.1 ∧ zL S 125 6 = lN s.2.2
theorem w_Re_sG_22 {G L : Nat} {gv gt : Nat → Nat} (hG : G ≤ 6) (hL : 2 ≤ L ∧ L ≤ 4) {Q : ZOut → ZSt → Prop} : ∀ (f D : Nat) (s : TrS) {S : ZSt}, zSh S → jGT S gv gt → f + D = 8 ^ L → okS s → trO S s → (∀ S' u4 u5, zG S S' → trO S' (trD G gv gt L f D s) → okS (trD G gv gt L f D s) → zW 3 m_Re_seekGain 11 [some (.ref 125), some (.ref 92), some (.int (nI G)), some (.int (nI (L + 1))), u4, u5] [] S' Q) → zW 3 m_Re_seekGain 22 [some (.ref 125), some (.ref 92), some (.int (nI G)), some (.int (nI L)), some (.int (nI (8 ^ L))), some (.int (nI D))] [] S Q
  | 0, D, s, S, hS, hj, hD, ho, ht, h => by
    have hp : 8 ^ L ≤ 8 ^ 4 := Nat.pow_le_pow_right (by omega) hL.2
    refine b_Re_seekGain_22 hS ⟨fun _ => ?_, fun h9 => absurd (nI_le (by omega) (by omega)) h9⟩
    rw [nI_add]
    exact h S _ _ zG.rf ht ho
  | f + 1, D, s, S, hS, hj, hD, ho, ht, h => by
    have hp : 8 ^ L ≤ 8 ^ 4 := Nat.pow_le_pow_right (by omega) hL.2
    have h1 : ∀ j, j < 36 → gv j ≤ 99 := fun j hj' => (hj j hj').1.2
    have h2 : ∀ j, j < 36 → gt j ≤ 99 := fun j hj' => (hj j hj').2.2
    have ok2 := okS_x (D := D) hG hL h1 h2 ho
    have e : trD G gv gt L (f + 1) D s = trD G gv gt L f (D + 1) (trX G gv gt L D s) := rfl
    rw [e] at h
    have next : ∀ {S1 : ZSt}, zG S S1 → trO S1 (trX G gv gt L D s) → zW 3 m_Re_seekGain 22 [some (.ref 125), some (.ref 92), some (.int (nI G)), some (.int (nI L)), some (.int (nI (8 ^ L))), some (.int (nI D + nI 1))] [] S1 Q := fun {S1} g1 t1 => by
      rw [nI_add]
      exact w_Re_sG_22 hG hL f (D + 1) _ (g1.sh hS) (fun j hj' => by rw [g1.2 101 (by omega) (by omega), g1.2 102 (by omega) (by omega)]; exact hj j hj') (by omega) ok2 t1 (fun S' u4 u5 g' => h S' u4 u5 (g1.tr g'))
    refine b_Re_seekGain_22 hS ⟨fun h9 => absurd h9 (nI_ge (by omega) (by omega)), fun _ => b_Re_isRound hS (w_Re_isRound_4 hG hL.2 (by omega) L 0 0 hS (by omega) mkP_0 (fun j hj => by omega) (fun j hj => by omega) (fun hr S1 j1 s1 => ?_) (fun hr S1 j1 => ?_))⟩
    · have hS1 := j1.sh hS
      have g1 : zG S S1 := ⟨by rw [j1.1], fun c a b => j1.2 c (zmemC b rfl)⟩
      have t1 : trO S1 s := by
        unfold trO
        rw [j1.2 125 rfl, show zL S1 = zL S by show S1.2.1 = S.2.1; rw [j1.1]]
        exact ht
      refine b_Re_seekGain_30 hS1 ⟨fun h9 => absurd h9 (by decide), fun _ => b_Re_isTraded hS1 (w_Re_isTraded_8 (gv := gv) (gt := gt) hG hL hr L 0 (S := zsL (zsL S1 125 7 (lN 1)) 125 8 (lN 1)) hS1 (fun j hj' => by show (zI S1 101 j = _ ∧ _) ∧ zI S1 102 j = _ ∧ _; rw [g1.2 101 (by omega) (by omega), g1.2 102 (by omega) (by omega)]; exact hj j hj') s1 (by omega) (fun j hj => by omega) rfl rfl (fun td S2 g2 i2 l5 l6 l7 l8 => ?_) (fun td S2 g2 i2 l5 l6 => ?_))⟩
      · have hg : zG S S2 := (g1.L.L).tr g2
        have hS2 := hg.sh hS
        have t2 : trO S2 s := ⟨by rw [i2]; exact t1.1, l5.trans t1.2.1, l6.trans t1.2.2⟩
        have p1 := prn_4 (f := gt) hG hL h2 hr
        have p2 := prn_4 (f := gv) hG hL h1 hr
        refine b_Re_seekGain_35 hS2 ⟨fun h9 => absurd h9 (by decide), fun _ => ?_⟩
        rw [l7, l8, t2.2.1, t2.2.2, lN_mul, lN_mul, lg_le, pk_lLE (mulb p1 ho.2.2) (mulb ho.1 p2)]
        refine ⟨fun h9 => next hg ?_, fun h9 => next ((hg.I (Or.inl rfl)).L.L) ?_⟩
        · rw [trX_n (fun h => by omega)]
          exact t2
        · rw [trX_y ⟨hr, td, by omega⟩]
          exact ⟨show zI (zsI S2 125 4 (nI D)) 125 4 = nI D from zI_s, rfl, rfl⟩
      · have hg : zG S S2 := (g1.L.L).tr g2
        refine b_Re_seekGain_35 (hg.sh hS) ⟨fun _ => next hg ?_, fun h9 => absurd (by decide) h9⟩
        rw [trX_n (fun h => td h.2.1)]
        exact ⟨by rw [i2]; exact t1.1, l5.trans t1.2.1, l6.trans t1.2.2⟩
    · have hS1 := j1.sh hS
      have g1 : zG S S1 := ⟨by rw [j1.1], fun c a b => j1.2 c (zmemC b rfl)⟩
      refine b_Re_seekGain_30 hS1 ⟨fun _ => next g1 ?_, fun h9 => absurd (by decide) h9⟩
      rw [trX_n (fun h => hr h.1)]
      unfold trO
      rw [j1.2 125 rfl, show zL S1 = zL S by show S1.2.1 = S.2.1; rw [j1.1]]
      exact ht
theorem zshl8 {L : Nat} (h : L ≤ 4) : zShl (nI 1) (nI 3 * nI L) = nI (8 ^ L) := by
  rw [pk_mul]
  rcases (show L = 0 ∨ L = 1 ∨ L = 2 ∨ L = 3 ∨ L = 4 by omega) with rfl | rfl | rfl | rfl | rfl <;> decide
theorem w_Re_sG_11 {G : Nat} {gv gt : Nat → Nat} (hG : G ≤ 6) {Q : ZOut → ZSt → Prop} : ∀ (f L : Nat) (s : TrS) {u4 u5 : Option Value} {S : ZSt}, zSh S → jGT S gv gt → f + L = 5 → 2 ≤ L → okS s → trO S s → (∀ S', zG S S' → trO S' (trL G gv gt f L s) → okS (trL G gv gt f L s) → Q (.inl none) S') → zW 3 m_Re_seekGain 11 [some (.ref 125), some (.ref 92), some (.int (nI G)), some (.int (nI L)), u4, u5] [] S Q
  | 0, L, s, u4, u5, S, hS, hj, hL, h2, ho, ht, hQ => by
    obtain rfl : L = 5 := by omega
    exact b_Re_seekGain_11 hS ⟨fun _ => hQ S zG.rf ht ho, fun h9 => absurd (by decide) h9⟩
  | f + 1, L, s, u4, u5, S, hS, hj, hL, h2, ho, ht, hQ => by
    refine b_Re_seekGain_11 hS ⟨fun h9 => absurd h9 (nI_nlt (by omega) (by omega)), fun _ => ?_⟩
    rw [zshl8 (by omega)]
    exact w_Re_sG_22 hG (by omega) (8 ^ L) 0 s hS hj (by omega) ho ht (fun S1 u4 u5 g1 t1 o1 => w_Re_sG_11 hG f (L + 1) _ (g1.sh hS) (fun j hj' => by rw [g1.2 101 (by omega) (by omega), g1.2 102 (by omega) (by omega)]; exact hj j hj') (by omega) (by omega) o1 t1 (fun S' g' => hQ S' (g1.tr g')))
/-! the reference's side -/
def zGM (S S' : ZSt) : Prop := S'.2.2 = S.2.2 ∧ (∀ c, c ≠ 130 → zI S' c = zI S c) ∧ (∀ j, j ≠ 53 → zI S' 130 j = zI S 130 j) ∧ ∀ c, c ≠ 130 → zL S' c = zL S c
theorem zGM.rf {S : ZSt} : zGM S S := ⟨rfl, fun _ _ => rfl, fun _ _ => rfl, fun _ _ => rfl⟩
theorem zGM.tr {S S1 S2 : ZSt} (h1 : zGM S S1) (h2 : zGM S1 S2) : zGM S S2 := ⟨h2.1.trans h1.1, fun c a => (h2.2.1 c a).trans (h1.2.1 c a), fun j a => (h2.2.2.1 j a).trans (h1.2.2.1 j a), fun c a => (h2.2.2.2 c a).trans (h1.2.2.2 c a)⟩
theorem zGM.sh {S S1 : ZSt} (h : zGM S S1) (hS : zSh S) : zSh S1 := by
  have e1 : zc S1 = zc S := by show S1.2.2.2.2.1 = S.2.2.2.2.1; rw [h.1]
  have e2 : zn S1 = zn S := by show S1.2.2.2.1 = S.2.2.2.1; rw [h.1]
  have e3 : zR S1 = zR S := by show S1.2.2.1 = S.2.2.1; rw [h.1]
  have e4 : zx S1 = zx S := by show S1.2.2.2.2.2.1 = S.2.2.2.2.2.1; rw [h.1]
  unfold zSh
  rw [e1, e2, e3, e4]
  exact hS
theorem zGM.h {S S1 : ZSt} (h : zGM S S1) : zH lM S S1 := by
  have e3 : zR S1 = zR S := by show S1.2.2.1 = S.2.2.1; rw [h.1]
  exact ⟨by rw [h.1], fun c _ => by rw [e3], fun h9 => by rw [e3]; exact h9, fun c hc _ => h.2.1 c (fun e => by rw [e] at hc; cases hc)⟩
theorem zGM.k {S S1 : ZSt} (h : zGM S S1) : zKM S S1 := ⟨fun j hj => h.2.2.1 j (by have := zkey hj; omega), fun q _ => by rw [h.2.1 136 (by omega)], fun q _ => ⟨by rw [h.2.1 137 (by omega)], by rw [h.2.1 138 (by omega)], by rw [h.2.1 139 (by omega)]⟩⟩
theorem zGM.I {S S1 : ZSt} (h : zGM S S1) {v : Int32} : zGM S (zsI S1 130 53 v) := ⟨h.1, fun c a => by rw [zI_ne _ _ a]; exact h.2.1 c a, fun j a => by rw [zI_o a]; exact h.2.2.1 j a, h.2.2.2⟩
theorem zGM.L {S S1 : ZSt} (h : zGM S S1) {k : Nat} {v : Int64} : zGM S (zsL S1 130 k v) := ⟨h.1, h.2.1, h.2.2.1, fun c a => by rw [show zL (zsL S1 130 k v) c = zL S1 c from zup_ne a]; exact h.2.2.2 c a⟩
def trM (S : ZSt) (s : TrS) : Prop := zI S 130 53 = s.1 ∧ zL S 130 51 = lN s.2.1 ∧ zL S 130 52 = lN s.2.2
def jGM (S : ZSt) (gv gt : Nat → Nat) : Prop := ∀ j, j < 36 → (zI S 132 (143 + j) = nI (gv j) ∧ gv j ≤ 99) ∧ zI S 132 (179 + j) = nI (gt j) ∧ gt j ≤ 99
theorem w_M_round_18 {G L D : Nat} {gv gt : Nat → Nat} {s : TrS} (hG : G ≤ 6) (hL : 2 ≤ L ∧ L ≤ 4) (hD : D < 8 ^ L) {S : ZSt} {Q : ZOut → ZSt → Prop} (hS : zSh S) (hj : jGM S gv gt) (ho : okS s) (ht : trM S s) (hQ : ∀ S', zGM S S' → trM S' (trX G gv gt L D s) → Q (.inl none) S') : ∀ (f i m : Nat) (u11 u12 : Option Value), f + i = L → mkP L D i m → (∀ j, j < i → dg8 L D j < G ∧ ∀ k, k < j → dg8 L D k ≠ dg8 L D j) → (∀ j, j < i → gv (cel L D j) ≠ 0) → zW 1 m_M_round 18 [some (.ref 130), some (.int (nI G)), some (.int (nI L)), some (.int (nI D)), some (.long (lN (prn gv L D i))), none, some (.long (lN (prn gt L D i))), none, some (.int (nI m)), some (.int (nI (dg8 L D 0))), some (.int (nI i)), u11, u12] [] S Q
  | 0, i, m, u11, u12, hi, hm, hr, htd => by
    obtain rfl : i = L := by omega
    have h1 : ∀ j, j < 36 → gv j ≤ 99 := fun j hj' => (hj j hj').1.2
    have h2 : ∀ j, j < 36 → gt j ≤ 99 := fun j hj' => (hj j hj').2.2
    have p1 := prn_4 (f := gt) hG hL h2 hr
    have p2 := prn_4 (f := gv) hG hL h1 hr
    refine b_M_round_18 hS ⟨fun _ => ?_, fun h9 => absurd (nI_le (Nat.le_refl _) (by omega)) h9⟩
    rw [ht.2.1, ht.2.2, lN_mul, lN_mul, lg_gt, pk_lLT (mulb ho.1 p2) (mulb p1 ho.2.2)]
    refine ⟨fun h9 => hQ _ (zGM.rf.L.L.I) ?_, fun h9 => hQ S zGM.rf ?_⟩
    · rw [trX_y ⟨hr, htd, h9⟩]
      exact ⟨zI_s, rfl, rfl⟩
    · rw [trX_n (fun h => h9 h.2.2)]
      exact ht
  | f + 1, i, m, u11, u12, hi, hm, hr, htd => by
    have hp : 8 ^ L ≤ 8 ^ 4 := Nat.pow_le_pow_right (by omega) hL.2
    have hd := dg8_lt (L := L) (D := D) (i := i)
    have hd0 := dg8_lt (L := L) (D := D) (i := 0)
    have hdn := dg8_lt (L := L) (D := D) (i := i + 1)
    obtain ⟨c1, c2, c3, c4⟩ := chkM_at hm.1 hd
    have hb := bit_lt (n := m) (k := dg8 L D i)
    have no : ¬ (rdP G L D ∧ tdP gv L D) → Q (.inl none) S := fun h => hQ S zGM.rf (by rw [trX_n (fun h9 => h ⟨h9.1, h9.2.1⟩)]; exact ht)
    have hnx : nxi L i < L := by unfold nxi; split <;> omega
    have body : ∀ (t : Nat) (u11 u12 : Option Value), t = dg8 L D (nxi L i) → ((nI G ≤ nI (dg8 L D i) → Q (.inl none) S) ∧ (¬ (nI G ≤ nI (dg8 L D i)) → ((nI (bit m (dg8 L D i)) = nI 1 → Q (.inl none) S) ∧ (¬ (nI (bit m (dg8 L D i)) = nI 1) → ((nI G ≤ nI t → Q (.inl none) S) ∧ (¬ (nI G ≤ nI t) → ((nI (dg8 L D i) = nI t → Q (.inl none) S) ∧ (¬ (nI (dg8 L D i) = nI t) → (vp_in ((nI 143 + nI 6 * nI (dg8 L D i)) + nI t) 225 ∧ ((¬ zI S 132 (((nI 143 + nI 6 * nI (dg8 L D i)) + nI t).toNatClampNeg) = 0 → (vp_in ((nI 143 + nI 6 * nI (dg8 L D i)) + nI t) 225 ∧ (vp_in ((nI 179 + nI 6 * nI (dg8 L D i)) + nI t) 225 ∧ zW 1 m_M_round 18 [some (.ref 130), some (.int (nI G)), some (.int (nI L)), some (.int (nI D)), some (.long (lN (prn gv L D i) * (zI S 132 (((nI 143 + nI 6 * nI (dg8 L D i)) + nI t).toNatClampNeg)).toInt64)), none, some (.long (lN (prn gt L D i) * (zI S 132 (((nI 179 + nI 6 * nI (dg8 L D i)) + nI t).toNatClampNeg)).toInt64)), none, some (.int (nI (Nat.lor m (2 ^ dg8 L D i)))), some (.int (nI (dg8 L D 0))), some (.int (nI i + nI 1)), u11, u12] [] S Q))) ∧ (¬ (¬ zI S 132 (((nI 143 + nI 6 * nI (dg8 L D i)) + nI t).toNatClampNeg) = 0) → Q (.inl none) S))))))))))) := fun t u11 u12 et => by
      have ht8 : t < 8 := by rw [et]; exact dg8_lt
      refine ⟨fun h9 => no (fun ⟨h, _⟩ => absurd h9 (nI_ge (h i (by omega)).1 (by omega))), fun h9 => ⟨fun h8 => no (fun ⟨h, _⟩ => ?_), fun h8 => ⟨fun h7 => no (fun ⟨h, _⟩ => absurd h7 (nI_ge (by rw [et]; exact (h _ hnx).1) (by omega))), fun h7 => ⟨fun h6 => no (fun ⟨h, _⟩ => ?_), fun h6 => ?_⟩⟩⟩⟩
      · obtain ⟨j, hj, e⟩ := (hm.2 _ hd).mp (nEq (by omega) (by omega) h8)
        exact (h i (by omega)).2 j hj e
      · have e1 : dg8 L D i = dg8 L D (nxi L i) := by rw [← et]; exact nEq (by omega) (by omega) h6
        unfold nxi at e1
        by_cases hl : i + 1 < L
        · rw [if_pos hl] at e1
          exact (h (i + 1) hl).2 i (by omega) e1
        · rw [if_neg hl] at e1
          exact (h i (by omega)).2 0 (by omega) e1.symm
      · have g1 : dg8 L D i < G := Nat.not_le.mp (fun h5 => h9 (nI_le h5 (by omega)))
        have g2 : t < G := Nat.not_le.mp (fun h5 => h7 (nI_le h5 (by omega)))
        have g3 : ¬ ∃ j, j < i ∧ dg8 L D j = dg8 L D i := fun h5 => h8 (by rw [(hm.2 _ hd).mpr h5])
        have ec : 6 * dg8 L D i + t = cel L D i := by unfold cel; rw [et]
        have hcl : cel L D i < 36 := by omega
        obtain ⟨⟨a1, a2⟩, a3, a4⟩ := hj (cel L D i) hcl
        rw [pk_mul, nI_add, nI_add, nI_add, nI_add, Nat.add_assoc, Nat.add_assoc, ec, zcl9 (by omega), zcl9 (by omega), a1, a3, nI_z (by omega), nI_l (by omega), nI_l (by omega), lN_mul, lN_mul, nI_add]
        refine ⟨zin (by omega) (by omega), fun h5 => ⟨zin (by omega) (by omega), zin (by omega) (by omega), ?_⟩, fun h5 => no (fun ⟨_, h⟩ => h5 (h i (by omega)))⟩
        refine w_M_round_18 hG hL hD hS hj ho ht hQ f (i + 1) _ u11 u12 (by omega) (mkP_s hm) (fun j hj' => ?_) (fun j hj' => ?_)
        · by_cases e : j = i
          · subst e
            exact ⟨g1, fun k hk e2 => g3 ⟨k, hk, e2⟩⟩
          · exact hr j (by omega)
        · by_cases e : j = i
          · rw [e]
            exact h5
          · exact htd j (by omega)
    refine b_M_round_18 hS ⟨fun h9 => absurd h9 (nI_ge (by omega) (by omega)), fun _ => ?_⟩
    rw [zdg (by omega) hL.2 (by omega), c1, c2]
    by_cases hl : i + 1 < L
    · rw [zdg2 (by omega) hL.2 hl]
      refine ⟨fun h9 => absurd (by rw [nI_add] at h9; exact h9) (nI_ge hl (by omega)), fun _ => body (dg8 L D (i + 1)) _ _ (by unfold nxi; rw [if_pos hl])⟩
    · refine ⟨fun _ => body (dg8 L D 0) _ _ (by unfold nxi; rw [if_neg hl]), fun h9 => absurd (by rw [nI_add]; exact nI_le (by omega) (by omega)) h9⟩
theorem w_M_round {G L D : Nat} {gv gt : Nat → Nat} {s : TrS} (hG : G ≤ 6) (hL : 2 ≤ L ∧ L ≤ 4) (hD : D < 8 ^ L) {S : ZSt} {Q : ZOut → ZSt → Prop} (hS : zSh S) (hj : jGM S gv gt) (ho : okS s) (ht : trM S s) (hQ : ∀ S', zGM S S' → trM S' (trX G gv gt L D s) → Q (.inl none) S') : zC m_M_round [.ref 130, .int (nI G), .int (nI L), .int (nI D)] S Q := by
  have hp : 8 ^ L ≤ 8 ^ 4 := Nat.pow_le_pow_right (by omega) hL.2
  refine b_M_round hS ?_
  have e := zdg (L := L) (D := D) (i := 0) (by omega) hL.2 (by omega)
  rw [show nI L - nI 1 - nI 0 = nI L - nI 1 by rw [nI_0, Int32.sub_zero]] at e
  rw [e]
  exact w_M_round_18 hG hL hD hS hj ho ht hQ L 0 0 none none (by omega) mkP_0 (fun j hj => by omega) (fun j hj => by omega)
theorem w_M_tr_39 {G L what : Nat} {gv gt : Nat → Nat} (hG : G ≤ 6) (hL : 2 ≤ L ∧ L ≤ 4) {Q : ZOut → ZSt → Prop} : ∀ (f D : Nat) (s : TrS) {S : ZSt}, zSh S → jGM S gv gt → f + D = 8 ^ L → okS s → trM S s → (∀ S' u4, zGM S S' → trM S' (trD G gv gt L f D s) → okS (trD G gv gt L f D s) → zW 2 m_M_trade 34 [some (.ref 130), some (.int (nI G)), some (.int (nI what)), some (.int (nI (L + 1))), u4] [] S' Q) → zW 2 m_M_trade 39 [some (.ref 130), some (.int (nI G)), some (.int (nI what)), some (.int (nI L)), some (.int (nI D))] [] S Q
  | 0, D, s, S, hS, hj, hD, ho, ht, h => by
    have hp : 8 ^ L ≤ 8 ^ 4 := Nat.pow_le_pow_right (by omega) hL.2
    refine b_M_trade_39 hS ?_
    rw [zshl8 hL.2, nI_add]
    exact ⟨fun _ => h S _ zGM.rf ht ho, fun h9 => absurd (nI_le (by omega) (by omega)) h9⟩
  | f + 1, D, s, S, hS, hj, hD, ho, ht, h => by
    have hp : 8 ^ L ≤ 8 ^ 4 := Nat.pow_le_pow_right (by omega) hL.2
    have ok2 := okS_x (D := D) hG hL (fun j hj' => (hj j hj').1.2) (fun j hj' => (hj j hj').2.2) ho
    refine b_M_trade_39 hS ?_
    rw [zshl8 hL.2]
    refine ⟨fun h9 => absurd h9 (nI_ge (by omega) (by omega)), fun _ => w_M_round hG hL (by omega) hS hj ho ht (fun S1 g1 t1 => b_M_trade_51 (g1.sh hS) ?_)⟩
    rw [nI_add]
    exact w_M_tr_39 hG hL f (D + 1) _ (g1.sh hS) (fun j hj' => by rw [g1.2.1 132 (by omega)]; exact hj j hj') (by omega) ok2 t1 (fun S' u4 g' => h S' u4 (g1.tr g'))
/-- the answer -/
def trA (what : Nat) (s : TrS) : Int32 := if s.1 = - nI 1 then - nI 1 else if what = 0 then s.1 else nI (if 1000 * s.2.1 / s.2.2 < 1000000000 then 1000 * s.2.1 / s.2.2 else 1000000000)
theorem w_M_tr_34 {G what : Nat} {gv gt : Nat → Nat} (hG : G ≤ 6) (hw : what ≤ 1) {Q : ZOut → ZSt → Prop} : ∀ (f L : Nat) (s : TrS) {u4 : Option Value} {S : ZSt}, zSh S → jGM S gv gt → f + L = 5 → 2 ≤ L → okS s → trM S s → (∀ S', zGM S S' → Q (.inl (some (.int (trA what (trL G gv gt f L s))))) S') → zW 2 m_M_trade 34 [some (.ref 130), some (.int (nI G)), some (.int (nI what)), some (.int (nI L)), u4] [] S Q
  | 0, L, s, u4, S, hS, hj, hL, h2, ho, ht, hQ => by
    obtain rfl : L = 5 := by omega
    have hq := hQ S zGM.rf
    rw [show trL G gv gt 0 5 s = s from rfl] at hq
    obtain ⟨o1, o2, o3⟩ := ho
    have h1000 : 1000 * s.2.1 < 2 ^ 63 := by
      have : (99 : Nat) ^ 4 < 100000000 := by decide
      omega
    have hdv : 1000 * s.2.1 / s.2.2 < 2 ^ 63 := Nat.lt_of_le_of_lt (Nat.div_le_self _ _) h1000
    have h994 : (99 : Nat) ^ 4 < 2 ^ 63 := by decide
    refine b_M_trade_34 hS ⟨fun _ => ?_, fun h9 => absurd (by decide) h9⟩
    rw [ht.1, ht.2.1, ht.2.2]
    refine ⟨fun h9 => ⟨fun h8 => ⟨?_, ?_⟩, fun h8 => ?_⟩, fun h9 => ?_⟩
    · intro e
      have e' : lN s.2.2 = lN 0 := e
      rw [pk_lEQ (by omega) (by omega)] at e'
      omega
    · rw [lN_mul, pk_lDiv h1000 (by omega) (by omega), lg_le, pk_lLE hdv (by omega)]
      rw [show trA what s = nI (if 1000 * s.2.1 / s.2.2 < 1000000000 then 1000 * s.2.1 / s.2.2 else 1000000000) by unfold trA; rw [if_neg h9, if_neg (fun e => h8 (by rw [e]; rfl))]] at hq
      refine ⟨fun h7 => ?_, fun h7 => ?_⟩
      · rw [lN_i]
        by_cases h6 : 1000 * s.2.1 / s.2.2 < 1000000000
        · rw [if_pos h6] at hq
          exact hq
        · rw [if_neg h6] at hq
          rw [show 1000 * s.2.1 / s.2.2 = 1000000000 by omega]
          exact hq
      · rw [if_neg (by omega)] at hq
        exact hq
    · rw [show trA what s = s.1 by unfold trA; rw [if_neg h9, if_pos ((nI_z (by omega)).mp (Classical.not_not.mp h8))]] at hq
      exact hq
    · rw [show trA what s = - nI 1 by unfold trA; rw [if_pos (Classical.not_not.mp h9)]] at hq
      exact hq
  | f + 1, L, s, u4, S, hS, hj, hL, h2, ho, ht, hQ => b_M_trade_34 hS ⟨fun h9 => absurd h9 (nI_nlt (by omega) (by omega)), fun _ => w_M_tr_39 hG (by omega) (8 ^ L) 0 s hS hj (by omega) ho ht (fun S1 u4 g1 t1 o1 => w_M_tr_34 hG hw f (L + 1) _ (g1.sh hS) (fun j hj' => by rw [g1.2.1 132 (by omega)]; exact hj j hj') (by omega) (by omega) o1 t1 (fun S' g' => hQ S' (g1.tr g')))⟩
def gvF (S : ZSt) (j : Nat) : Nat := (zI S 132 (143 + j)).toNatClampNeg
def gtF (S : ZSt) (j : Nat) : Nat := (zI S 132 (179 + j)).toNatClampNeg
theorem p_trade {v1 v2 : Int32} {S : ZSt} (hS : zSh S) (hD : zStD S) (hJ : jCore S) : zC m_L_trade [.ref 75, .int v1, .int v2, .ref 161] S (zTwoR S m_M_trade [.int v1, .int v2] (zAns4 S)) := by
  have hg := hJ.1.2.2.2.2.2.2.1
  have ht := hJ.1.2.2.2.2.2.2.2.1
  have hM : jGM S (gvF S) (gtF S) := fun j hj => ⟨jRg_c (hg j hj).2 (by omega), jRg_c (ht j hj).2 (by omega)⟩
  have hO : jGT S (gvF S) (gtF S) := fun j hj => ⟨⟨(hg j hj).1.trans (hM j hj).1.1, (hM j hj).1.2⟩, (ht j hj).1.trans (hM j hj).2.1, (hM j hj).2.2⟩
  have hMT : ∀ {T}, zAt S T → jGM (zsI T 130 0 (nI 0)) (gvF S) (gtF S) := fun {T} tT j hj => by
    show (zI T 132 (143 + j) = _ ∧ _) ∧ zI T 132 (179 + j) = _ ∧ _
    rw [tT.at rfl]
    exact hM j hj
  by_cases hp : zIn v1 2 6
  case neg =>
    exact y_trade (res := .inl (2, 1)) hS hD hJ (fun r kk e => by cases e; omega) (b_N_trade hS (w_N_isNotR rfl hS (fun h9 => absurd h9 hp) (fun _ => b_N_trade_5 hS ⟨fun _ => b_N_refuseIf hS ⟨fun h9 => absurd h9 (by decide), fun _ => ⟨zinl rfl, zinl rfl, zOb_bad (r := 2) (kk := 1) hS⟩⟩, fun h9 => absurd (by decide) h9⟩))) (fun T hT tT => b_M_trade hT (w_M_withinR rfl hT (fun h9 => absurd h9 hp) (fun _ => b_M_trade_8 hT ⟨fun _ => w_M_may0 (S := zsI T 130 0 (nI 0)) hT rfl (by omega) (by omega) (b_M_trade_20 hT ⟨fun h9 => absurd (by decide) h9, fun _ => zMo_bad (r := 2) (kk := 1) hT⟩), fun h9 => absurd (by decide) h9⟩)))
  have hp' := hp
  obtain ⟨G, g1, g2, rfl⟩ := hp
  by_cases hq : zIn v2 0 1
  case neg =>
    exact y_trade (res := .inl (2, 1)) hS hD hJ (fun r kk e => by cases e; omega) (b_N_trade hS (w_N_isNotR rfl hS (fun _ => b_N_trade_5 hS ⟨fun h9 => absurd (by decide) h9, fun _ => w_N_isNotR rfl hS (fun h9 => absurd h9 hq) (fun _ => b_N_trade_10 hS ⟨fun h9 => absurd h9 (by decide), fun _ => b_N_refuseIf hS ⟨fun h9 => absurd h9 (by decide), fun _ => ⟨zinl rfl, zinl rfl, zOb_bad (r := 2) (kk := 1) hS⟩⟩⟩)⟩) (fun h9 => absurd hp' h9))) (fun T hT tT => b_M_trade hT (w_M_withinR rfl hT (fun _ => b_M_trade_8 hT ⟨fun h9 => absurd h9 (by decide), fun _ => w_M_withinR rfl hT (fun h9 => absurd h9 hq) (fun _ => b_M_trade_13 hT ⟨fun _ => w_M_may0 (S := zsI T 130 0 (nI 0)) hT rfl (by omega) (by omega) (b_M_trade_20 hT ⟨fun h9 => absurd (by decide) h9, fun _ => zMo_bad (r := 2) (kk := 1) hT⟩), fun h9 => absurd (by decide) h9⟩)⟩) (fun h9 => absurd hp' h9)))
  have hq' := hq
  obtain ⟨what, -, hw, rfl⟩ := hq
  have ok0 : okS (- nI 1, 1, 1) := ⟨by show 1 ≤ 99 ^ 4; decide, Nat.le_refl _, by show 1 ≤ 99 ^ 4; decide⟩
  refine y_trade (res := .inr (trA what (trL G (gvF S) (gtF S) 3 2 (- nI 1, 1, 1)))) hS hD hJ (fun r kk e => by cases e) (b_N_trade hS (w_N_isNotR rfl hS (fun _ => b_N_trade_5 hS ⟨fun h9 => absurd (by decide) h9, fun _ => w_N_isNotR rfl hS (fun _ => b_N_trade_10 hS ⟨fun _ => b_N_refuseIf hS ⟨fun _ => b_N_trade_15 hS (b_Re_seekGain hS (w_Re_sG_11 g2 3 2 (- nI 1, 1, 1) (S := zsL (zsL (zsI S 125 4 (- nI 1)) 125 5 (lN 1)) 125 6 (lN 1)) hS hO (by omega) (by omega) ok0 ⟨show zI (zsI S 125 4 (- nI 1)) 125 4 = - nI 1 from zI_s, rfl, rfl⟩ (fun S1 z1 t1 o1 => b_N_trade_21 (z1.sh hS) ?_))), fun h9 => absurd (by decide) h9⟩, fun h9 => absurd (by decide) h9⟩) (fun h9 => absurd hq' h9)⟩) (fun h9 => absurd hp' h9))) (fun T hT tT => b_M_trade hT (w_M_withinR rfl hT (fun _ => b_M_trade_8 hT ⟨fun h9 => absurd h9 (by decide), fun _ => w_M_withinR rfl hT (fun _ => b_M_trade_13 hT ⟨fun h9 => absurd h9 (by decide), fun _ => w_M_may1 (S := zsI T 130 0 (nI 0)) hT rfl (b_M_trade_20 hT ⟨fun _ => w_M_tr_34 g2 hw 3 2 (- nI 1, 1, 1) (S := zsI (zsL (zsL (zsI T 130 0 (nI 0)) 130 51 (lN 1)) 130 52 (lN 1)) 130 53 (- nI 1)) hT (show jGM (zsI T 130 0 (nI 0)) (gvF S) (gtF S) from hMT tT) (by omega) (by omega) ok0 ⟨zI_s, rfl, rfl⟩ (fun S1 z1 => ?_), fun h9 => absurd (by decide) h9⟩)⟩) (fun h9 => absurd hq' h9)⟩) (fun h9 => absurd hp' h9)))
  · have zx : zG S S1 := ((zG.rf.I (Or.inl rfl)).L.L).tr z1
    have hS1 := zx.sh hS
    generalize trL G (gvF S) (gtF S) 3 2 (- nI 1, 1, 1) = s at *
    obtain ⟨o1, o2, o3⟩ := o1
    have h1000 : 1000 * s.2.1 < 2 ^ 63 := by
      have : (99 : Nat) ^ 4 < 100000000 := by decide
      omega
    have hdv : 1000 * s.2.1 / s.2.2 < 2 ^ 63 := Nat.lt_of_le_of_lt (Nat.div_le_self _ _) h1000
    have h994 : (99 : Nat) ^ 4 < 2 ^ 63 := by decide
    rw [t1.1]
    refine ⟨fun h9 => b_Re_gainOfThousand hS1 ?_, fun h9 => ⟨?_, zx.h, hS1⟩⟩
    · rw [t1.1, t1.2.1, t1.2.2]
      refine ⟨fun h8 => b_N_trade_30 hS1 ⟨?_, zx.h, hS1⟩, fun h8 => ⟨fun h7 => ⟨?_, b_N_trade_30 hS1 ⟨?_, zx.h, hS1⟩⟩, fun h7 => absurd ?_ h7⟩⟩
      · unfold trA
        rw [if_pos h8]
      · intro e
        have e' : lN s.2.2 = lN 0 := e
        rw [pk_lEQ (by omega) (by omega)] at e'
        omega
      · unfold trA
        rw [if_neg h8, if_neg (show ¬ what = 0 from fun e => h9 (by rw [e]; rfl)), lN_mul, pk_lDiv h1000 (by omega) (by omega)]
        by_cases h6 : 1000 * s.2.1 / s.2.2 < 1000000000
        · rw [if_pos h6, if_pos ((pk_lLT hdv (by omega)).mpr h6), lN_i]
        · rw [if_neg h6, if_neg (fun h5 => h6 ((pk_lLT hdv (by omega)).mp h5)), lN_i]
      · rw [lg_gt, pk_lLT (by omega) (by omega)]
        exact o2
    · unfold trA
      by_cases h8 : s.1 = - nI 1
      · rw [if_pos h8, h8]
      · rw [if_neg h8, if_pos ((nI_z (by omega)).mp (Classical.not_not.mp h9))]
  · have z0' : zGM (zsI T 130 0 (nI 0)) (zsI (zsL (zsL (zsI T 130 0 (nI 0)) 130 51 (lN 1)) 130 52 (lN 1)) 130 53 (- nI 1)) := zGM.rf.L.L.I
    have zx := z0'.tr z1
    exact ⟨rfl, zH0.tr zx.h, zx.sh hT, zx.2.2.2 161 (by omega), zKM0.tr zx.k, (zx.2.2.1 0 (by omega)).trans zI_s⟩
