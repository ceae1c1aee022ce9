/-! whole numbers that hold no word: both alike -/
def zGR (S S' : ZSt) : Prop := S'.2.2 = S.2.2 ∧ (∀ c, c ≠ 130 → c ≠ 156 → c ≠ 157 → zI S' c = zI S c) ∧ (∀ j, j ≠ 58 → zI S' 130 j = zI S 130 j) ∧ ∀ c, c ≠ 158 → c ≠ 159 → zL S' c = zL S c
theorem zGR.rf {S : ZSt} : zGR S S := ⟨rfl, fun _ _ _ _ => rfl, fun _ _ => rfl, fun _ _ _ => rfl⟩
theorem zGR.tr {S S1 S2 : ZSt} (h1 : zGR S S1) (h2 : zGR S1 S2) : zGR S S2 := ⟨h2.1.trans h1.1, fun c a b d => (h2.2.1 c a b d).trans (h1.2.1 c a b d), fun j a => (h2.2.2.1 j a).trans (h1.2.2.1 j a), fun c a b => (h2.2.2.2 c a b).trans (h1.2.2.2 c a b)⟩
theorem zGR.sh {S S1 : ZSt} (h : zGR S S1) (hS : zSh S) : zSh S1 := by
  have e1 : zc S1 = zc S := by show S1.2.2.2.2.1 = S.2.2.2.2.1; rw [h.1]
  have e2 : zn S1 = zn S := by show S1.2.2.2.1 = S.2.2.2.1; rw [h.1]
  have e3 : zR S1 = zR S := by show S1.2.2.1 = S.2.2.1; rw [h.1]
  have e4 : zx S1 = zx S := by show S1.2.2.2.2.2.1 = S.2.2.2.2.2.1; rw [h.1]
  unfold zSh
  rw [e1, e2, e3, e4]
  exact hS
theorem zGR.h {S S1 : ZSt} (h : zGR S S1) : zH lM S S1 := by
  have e3 : zR S1 = zR S := by show S1.2.2.1 = S.2.2.1; rw [h.1]
  exact ⟨by rw [h.1], fun c _ => by rw [e3], fun h9 => by rw [e3]; exact h9, fun c hc _ => h.2.1 c (fun e => by rw [e] at hc; cases hc) (fun e => by rw [e] at hc; cases hc) (fun e => by rw [e] at hc; cases hc)⟩
theorem zGR.k {S S1 : ZSt} (h : zGR S S1) : zKM S S1 := ⟨fun j hj => h.2.2.1 j (by have := zkey hj; omega), fun q _ => by rw [h.2.1 136 (by omega) (by omega) (by omega)], fun q _ => ⟨by rw [h.2.1 137 (by omega) (by omega) (by omega)], by rw [h.2.1 138 (by omega) (by omega) (by omega)], by rw [h.2.1 139 (by omega) (by omega) (by omega)]⟩⟩
theorem zGR.ofX {S S1 : ZSt} (h : zX S S1) : zGR S S1 := ⟨h.2.1, fun c _ _ _ => by rw [h.I], fun j _ => by rw [h.I], h.2.2⟩
theorem zGR.I {S : ZSt} {a k : Nat} {v : Int32} (ha : a = 156 ∨ a = 157) : zGR S (zsI S a k v) := ⟨rfl, fun c _ _ _ => zI_ne _ _ (by omega), fun j _ => by rw [zI_ne _ _ (by omega)], fun _ _ _ => rfl⟩
theorem zGR.I58 {S : ZSt} {v : Int32} : zGR S (zsI S 130 58 v) := ⟨rfl, fun c _ _ _ => zI_ne _ _ (by omega), fun j hj => zI_o hj, fun _ _ _ => rfl⟩
theorem nd_spec : ∀ (f x : Nat), x < 4 ^ f → x < 4 ^ nd f x ∧ (0 < x → 4 ^ (nd f x - 1) ≤ x ∧ 0 < nd f x) ∧ (x = 0 → nd f x = 0)
  | 0, x, h => by
    obtain rfl : x = 0 := by omega
    exact ⟨by show 0 < 4 ^ 0; decide, fun h => by omega, fun _ => rfl⟩
  | f + 1, x, h => by
    by_cases e : x = 0
    · subst e
      exact ⟨by show 0 < 4 ^ 0; decide, fun h => by omega, fun _ => rfl⟩
    · obtain ⟨a, b, c⟩ := nd_spec f (x / 4) (p4d h)
      have e2 : nd (f + 1) x = nd f (x / 4) + 1 := if_neg e
      rw [e2]
      refine ⟨?_, fun _ => ⟨?_, by omega⟩, fun h => absurd h e⟩
      · rw [p4s]
        omega
      · rw [show nd f (x / 4) + 1 - 1 = nd f (x / 4) by omega]
        by_cases e3 : x / 4 = 0
        · rw [c e3]
          show 1 ≤ x
          omega
        · obtain ⟨b1, b2⟩ := b (by omega)
          have : 4 ^ nd f (x / 4) = 4 * 4 ^ (nd f (x / 4) - 1) := by
            rw [← p4s, show nd f (x / 4) - 1 + 1 = nd f (x / 4) by omega]
          omega
theorem len_spec {n : Nat} (h : n < 2 ^ 30) : n < 4 ^ (1 + nd 16 (n / 4)) ∧ (0 < n → 4 ^ (1 + nd 16 (n / 4) - 1) ≤ n) ∧ (n = 0 → 1 + nd 16 (n / 4) = 1) ∧ 1 + nd 16 (n / 4) ≤ 15 := by
  obtain ⟨a, b, c⟩ := nd_spec 16 (n / 4) (p416 (by omega))
  have h1 : n < 4 ^ (1 + nd 16 (n / 4)) := by
    rw [Nat.add_comm, p4s]
    omega
  have h2 : 0 < n → 4 ^ (1 + nd 16 (n / 4) - 1) ≤ n := fun hn => by
    rw [show 1 + nd 16 (n / 4) - 1 = nd 16 (n / 4) by omega]
    by_cases e3 : n / 4 = 0
    · rw [c e3]
      show 1 ≤ n
      omega
    · obtain ⟨b1, b2⟩ := b (by omega)
      have : 4 ^ nd 16 (n / 4) = 4 * 4 ^ (nd 16 (n / 4) - 1) := by
        rw [← p4s, show nd 16 (n / 4) - 1 + 1 = nd 16 (n / 4) by omega]
      omega
  have h3 : n = 0 → 1 + nd 16 (n / 4) = 1 := fun e => by rw [c (by rw [e])]
  refine ⟨h1, h2, h3, ?_⟩
  by_cases hn : 0 < n
  · by_cases hl : 1 + nd 16 (n / 4) ≤ 15
    · exact hl
    · have := Nat.pow_le_pow_right (n := 4) (by omega) (show 15 ≤ 1 + nd 16 (n / 4) - 1 by omega)
      have := h2 hn
      have : (4 : Nat) ^ 15 = 2 ^ 30 := by decide
      omega
  · have := h3 (by omega)
    omega
def chkD : Bool := (List.range 256).all fun w => Nat.beq (1 + nd 16 (w / 4)) (mW w)
theorem chkD_t : chkD = true := by decide +kernel
theorem chkD_at {w : Nat} (h : w < 256) : 1 + nd 16 (w / 4) = mW w := by
  have h1 := chkD_t
  unfold chkD at h1
  rw [List.all_eq_true] at h1
  exact Nat.eq_of_beq_eq_true (h1 w (List.mem_range.mpr h))
theorem PV_0 {w m n len : Nat} (h1 : 1 ≤ m) (h00 : dl w m 0 0 = 0) (hn : n < 4 ^ len) : ∀ k, k + len ≤ 15 → (∀ j, (PV w m n k).1 j = 0) ∧ (PV w m n k).2 = 0
  | 0, _ => ⟨fun _ => rfl, rfl⟩
  | k + 1, hk => by
    obtain ⟨a, b⟩ := PV_0 h1 h00 hn k (by omega)
    have hd : n / 4 ^ (14 - k) = 0 := Nat.div_eq_of_lt (Nat.lt_of_lt_of_le hn (Nat.pow_le_pow_right (by omega) (by omega)))
    have e : PV w m n (k + 1) = stp w m 0 (PV w m n k) := by
      show stp w m (n / 4 ^ (14 - k) % 4) (PV w m n k) = _
      rw [hd]
    rw [e]
    refine ⟨fun j => ?_, ?_⟩
    · show (if j < m then sumF (fun s => hS4 w m j s * (PV w m n k).1 s) m + (if (PV w m n k).2 = m then 0 else sumF (fun d => if dl w m (PV w m n k).2 d = j then 1 else 0) 0) else 0) = 0
      rw [sumF_zero _ (fun s _ => by rw [a s, Nat.mul_zero])]
      split
      · split <;> rfl
      · rfl
    · show (if (PV w m n k).2 = m then m else dl w m (PV w m n k).2 0) = 0
      rw [b, if_neg (by omega), h00]
theorem zshr14 {n i : Nat} (hn : n < 2 ^ 30) (hi : i ≤ 14) : zShr (nI n) (nI 2 * nI i) &&& nI 3 = nI (n / 4 ^ i % 4) := by
  have e : zShr (nI n) (nI 2 * nI i) = nI (n / 2 ^ (2 * i)) := by
    rw [pk_mul]
    have : ∀ i, i < 15 → zShr (nI n) (nI (2 * i)) = nI (n / 2 ^ (2 * i)) := by
      intro i hi
      refine pk_shrN (by omega) _ (2 * i) ?_
      revert i
      decide
    exact this i (by omega)
  have hb : n / 2 ^ (2 * i) < 2 ^ 32 := Nat.lt_of_le_of_lt (Nat.div_le_self _ _) (by omega)
  rw [e, pk_andN hb 2 (by decide), Nat.pow_mul]
theorem w_M_w29 {n w m : Nat} {Q : ZOut → ZSt → Prop} (hm : m ≤ 4) (hw : w < 256) (hn : n < 2 ^ 30) : ∀ (f j : Nat) {S : ZSt}, zSh S → zI S 130 58 = nI m → (∀ i, i < j → zI S 156 i = nI (wg w m i)) → f + j = m → (∀ S', zGR S S' → zI S' 130 58 = nI m → (∀ i, i < m → zI S' 156 i = nI (wg w m i)) → zW 2 m_M_whole 56 [some (.ref 130), some (.int (nI n)), some (.int (nI w)), some (.int (nI (1 + nd 16 (n / 4)))), some (.int (nI 0)), none, none, none, none] [] S' Q) → zW 2 m_M_whole 29 [some (.ref 130), some (.int (nI n)), some (.int (nI w)), some (.int (nI j)), none, none, none, none, none] [] S Q
  | 0, j, S, hS, h58, hi, hj, hQ => by
    obtain rfl : j = m := by omega
    refine b_M_whole_29 hS ?_
    rw [h58]
    refine ⟨fun _ => w_M_digits hS (nI_pos (by omega)) (b_M_whole_53 hS ?_), fun h9 => absurd (nI_le (Nat.le_refl _) (by omega)) h9⟩
    unfold fDig
    rw [zcl9 (by omega)]
    exact hQ S zGR.rf h58 hi
  | f + 1, j, S, hS, h58, hi, hj, hQ => by
    refine b_M_whole_29 hS ?_
    rw [h58, zsub1 (by omega), pk_sub (by omega), zshr14 (by omega) (by omega), zcl9 (by omega), nI_add]
    refine ⟨fun h9 => absurd h9 (nI_ge (by omega) (by omega)), fun _ => ⟨zin (by omega) (by omega), ?_⟩⟩
    have j1 : zGR S (zsI S 156 j (nI (w / 4 ^ (m - 1 - j) % 4))) := zGR.I (Or.inl rfl)
    refine w_M_w29 hm hw hn f (j + 1) (j1.sh hS) (by rw [zI_ne _ _ (by omega)]; exact h58) (fun i hi9 => ?_) (by omega) (fun S' z => hQ S' (j1.tr z))
    rw [zI_eq, zupd]
    by_cases e : i = j
    · rw [if_pos e, e]
      rfl
    · rw [if_neg e]
      exact hi i (by omega)
theorem w_M_w56 {n w m len : Nat} {Q : ZOut → ZSt → Prop} (hl : len ≤ 15) (hn : n < 2 ^ 30) : ∀ (f j : Nat) {S : ZSt}, zSh S → zI S 130 58 = nI m → (∀ i, i < m → zI S 156 i = nI (wg w m i)) → (∀ i, i < j → zI S 157 i = nI (n / 4 ^ (len - 1 - i) % 4)) → f + j = len → (∀ S', zGR S S' → zK9 S' w m n len → zW 2 m_M_whole 78 [some (.ref 130), some (.int (nI n)), some (.int (nI w)), some (.int (nI len)), some (.int (nI 0)), none, none, none, none] [] S' Q) → zW 2 m_M_whole 56 [some (.ref 130), some (.int (nI n)), some (.int (nI w)), some (.int (nI len)), some (.int (nI j)), none, none, none, none] [] S Q
  | 0, j, S, hS, h58, hG, hi, hj, hQ => by
    obtain rfl : j = len := by omega
    exact b_M_whole_56 hS ⟨fun _ => hQ S zGR.rf ⟨hS, hG, hi, h58⟩, fun h9 => absurd (nI_le (Nat.le_refl _) (by omega)) h9⟩
  | f + 1, j, S, hS, h58, hG, hi, hj, hQ => by
    refine b_M_whole_56 hS ?_
    rw [zsub1 (by omega), pk_sub (by omega), zshr14 (by omega) (by omega), zcl9 (by omega), nI_add]
    refine ⟨fun h9 => absurd h9 (nI_ge (by omega) (by omega)), fun _ => ⟨zin (by omega) (by omega), ?_⟩⟩
    have j1 : zGR S (zsI S 157 j (nI (n / 4 ^ (len - 1 - j) % 4))) := zGR.I (Or.inr rfl)
    refine w_M_w56 hl hn f (j + 1) (j1.sh hS) (by rw [zI_ne _ _ (by omega)]; exact h58) (fun i hi9 => by rw [zI_ne _ _ (by omega)]; exact hG i hi9) (fun i hi9 => ?_) (by omega) (fun S' z => hQ S' (j1.tr z))
    rw [zI_eq, zupd]
    by_cases e : i = j
    · rw [if_pos e, e]
    · rw [if_neg e]
      exact hi i (by omega)
theorem w_M_w78 {n w m len : Nat} {x3 : Int32} {Q : ZOut → ZSt → Prop} : ∀ (f d : Nat) {S : ZSt}, zK9 S w m n len → (∀ j, j < d → zL S 158 j = lN 0) → f + d = 4 → (∀ S', zX S S' → zEL m S' 158 (fun _ => 0) → zW 2 m_M_whole 92 [some (.ref 130), some (.int (nI n)), some (.int (nI w)), some (.int x3), some (.int (nI 0)), some (.int (nI 0)), none, none, none] [] S' Q) → zW 2 m_M_whole 78 [some (.ref 130), some (.int (nI n)), some (.int (nI w)), some (.int x3), some (.int (nI d)), none, none, none, none] [] S Q
  | 0, d, S, hK, hz, hd, hQ => by
    obtain rfl : d = 4 := by omega
    exact b_M_whole_78 hK.1 ⟨fun _ => hQ S zX.rf ⟨hz, fun _ _ => rfl⟩, fun h9 => absurd (nI_le (Nat.le_refl _) (by omega)) h9⟩
  | f + 1, d, S, hK, hz, hd, hQ => by
    refine b_M_whole_78 hK.1 ⟨fun h9 => absurd h9 (nI_ge (by omega) (by omega)), fun _ => ⟨zin (by omega) (by omega), ?_⟩⟩
    rw [zcl9 (by omega), nI_add]
    have j1 : zX S (zsL S 158 d (lN 0)) := zX.L (Or.inl rfl)
    refine w_M_w78 f (d + 1) (j1.k9 hK) (fun j hj => ?_) (by omega) (fun S' z => hQ S' (j1.tr z))
    by_cases e : j = d
    · rw [e, zL_eq]
    · rw [zL_o e]
      exact hz j (by omega)
theorem w_M_w20 {n w : Nat} {S : ZSt} {Q : ZOut → ZSt → Prop} (hS : zSh S) (hn : n < 2 ^ 30) (hw1 : 1 ≤ w) (hw : w ≤ 255) (hQ : ∀ S', zGR S S' → Q (.inl (some (.int (nI (aW w (mW w) n))))) S') : zW 2 m_M_whole 20 [some (.ref 130), some (.int (nI n)), some (.int (nI w)), none, none, none, none, none, none] [.int (nI 1)] S Q := by
  obtain ⟨st, h1, h2⟩ := stW hw1 hw
  have hm := mW_r (w := w)
  obtain ⟨l1, l2, l3, l4⟩ := len_spec hn
  have h00 : dl w (mW w) 0 0 = 0 := by
    have := (h2 0 (Nat.pow_pos (by omega))).2 0 (by omega)
    rw [h1, if_neg (by omega), show (4 * 0 + 0) % 4 ^ (mW w - 1) = 0 from Nat.zero_mod _, h1] at this
    exact this
  refine b_M_whole_20 hS ⟨fun _ => w_M_digits hS (nI_pos (by omega)) (b_M_whole_26 hS ?_), fun h9 => absurd (by decide) h9⟩
  unfold fDig
  rw [zcl9 (by omega), chkD_at (by omega)]
  have j1 : zGR S (zsI S 130 58 (nI (mW w))) := zGR.I58
  refine w_M_w29 hm.2 (by omega) hn (mW w) 0 (j1.sh hS) zI_s (fun i hi => by omega) (by omega) (fun S1 z1 e1 e2 => ?_)
  refine w_M_w56 l4 hn (1 + nd 16 (n / 4)) 0 (z1.sh (j1.sh hS)) e1 e2 (fun i hi => by omega) (by omega) (fun S2 z2 k2 => ?_)
  refine w_M_w78 4 0 k2 (fun i hi => by omega) (by omega) (fun S3 z3 k3 => ?_)
  have hP := PV_0 (w := w) (n := n) hm.1 h00 l1 (15 - (1 + nd 16 (n / 4))) (by omega)
  have hmain := w_M_w92 (Q := Q) hm.2 hm.1 h00 (by omega) l4 hn l2 l1 l3 (1 + nd 16 (n / 4)) 0 (t := 0) (u6 := none) (u7 := none) (u8 := none) (by omega) (z3.k9 k2) k3 ⟨fun j hj => by rw [Nat.add_zero, hP.1 j, if_neg (show ¬ (0 < 0 ∧ 0 < n) from fun h => absurd h.1 (Nat.lt_irrefl 0)), Nat.mul_zero], by rw [Nat.add_zero, hP.2], by omega, fun _ => ⟨rfl, fun _ => rfl⟩⟩ (fun S' z => hQ S' ((((j1.tr z1).tr z2).tr (zGR.ofX z3)).tr (zGR.ofX z)))
  have e0 : tI (mW w) 0 = nI 0 := if_neg (by omega)
  rw [e0] at hmain
  exact hmain
theorem p_whole {v1 v2 : Int32} {S : ZSt} (hS : zSh S) (hD : zStD S) (hJ : jCore S) (hZ : zSwp (zR S 125)) : zC m_L_whole [.ref 75, .int v1, .int v2, .ref 161] S (zTwoR S m_M_whole [.int v1, .int v2] (zAns4 S)) := by
  by_cases hp : zIn v1 0 1000000000
  case neg =>
    exact y_whole (res := .inl (2, 1)) hS hD hJ (fun r kk e => by cases e; omega) (b_N_whole hS (w_N_isNotR rfl hS (fun h9 => absurd h9 hp) (fun _ => b_N_whole_5 hS ⟨fun _ => b_N_refuseIf hS ⟨fun h9 => absurd h9 (by decide), fun _ => ⟨zinl rfl, zinl rfl, zOb_bad (r := 2) (kk := 1) hS⟩⟩, fun h9 => absurd (by decide) h9⟩))) (fun T hT tT => b_M_whole hT (w_M_withinR rfl hT (fun h9 => absurd h9 hp) (fun _ => b_M_whole_8 hT ⟨fun _ => w_M_may0 (S := zsI T 130 0 (nI 0)) hT rfl (by omega) (by omega) (b_M_whole_20 hT ⟨fun h9 => absurd (by decide) h9, fun _ => zMo_bad (r := 2) (kk := 1) hT⟩), fun h9 => absurd (by decide) h9⟩)))
  have hp' := hp
  obtain ⟨n, g1, g2, rfl⟩ := hp
  by_cases hq : zIn v2 1 255
  case neg =>
    exact y_whole (res := .inl (2, 1)) hS hD hJ (fun r kk e => by cases e; omega) (b_N_whole hS (w_N_isNotR rfl hS (fun _ => b_N_whole_5 hS ⟨fun h9 => absurd (by decide) h9, fun _ => w_N_isNotR rfl hS (fun h9 => absurd h9 hq) (fun _ => b_N_whole_10 hS ⟨fun h9 => absurd h9 (by decide), fun _ => b_N_refuseIf hS ⟨fun h9 => absurd h9 (by decide), fun _ => ⟨zinl rfl, zinl rfl, zOb_bad (r := 2) (kk := 1) hS⟩⟩⟩)⟩) (fun h9 => absurd hp' h9))) (fun T hT tT => b_M_whole hT (w_M_withinR rfl hT (fun _ => b_M_whole_8 hT ⟨fun h9 => absurd h9 (by decide), fun _ => w_M_withinR rfl hT (fun h9 => absurd h9 hq) (fun _ => b_M_whole_13 hT ⟨fun _ => w_M_may0 (S := zsI T 130 0 (nI 0)) hT rfl (by omega) (by omega) (b_M_whole_20 hT ⟨fun h9 => absurd (by decide) h9, fun _ => zMo_bad (r := 2) (kk := 1) hT⟩), fun h9 => absurd (by decide) h9⟩)⟩) (fun h9 => absurd hp' h9)))
  have hq' := hq
  obtain ⟨w, f1, f2, rfl⟩ := hq
  have hn : n < 2 ^ 30 := by omega
  exact y_whole (res := .inr (nI (aW w (mW w) n))) hS hD hJ (fun r kk e => by cases e) (b_N_whole hS (w_N_isNotR rfl hS (fun _ => b_N_whole_5 hS ⟨fun h9 => absurd (by decide) h9, fun _ => w_N_isNotR rfl hS (fun _ => b_N_whole_10 hS ⟨fun _ => b_N_refuseIf hS ⟨fun _ => b_N_whole_15 hS (w_Re_wholeNumbers hS hZ hn f1 f2 (fun S1 z1 => b_N_whole_20 (z1.sh hS) ⟨rfl, z1.h, z1.sh hS⟩)), fun h9 => absurd (by decide) h9⟩, fun h9 => absurd (by decide) h9⟩) (fun h9 => absurd hq' h9)⟩) (fun h9 => absurd hp' h9))) (fun T hT tT => b_M_whole hT (w_M_withinR rfl hT (fun _ => b_M_whole_8 hT ⟨fun h9 => absurd h9 (by decide), fun _ => w_M_withinR rfl hT (fun _ => b_M_whole_13 hT ⟨fun h9 => absurd h9 (by decide), fun _ => w_M_may1 (S := zsI T 130 0 (nI 0)) hT rfl (w_M_w20 (S := zsI T 130 0 (nI 0)) hT hn f1 f2 (fun S1 z1 => ⟨rfl, zH0.tr z1.h, z1.sh hT, z1.2.2.2 161 (by omega) (by omega), zKM0.tr z1.k, (z1.2.2.1 0 (by omega)).trans zI_s⟩))⟩) (fun h9 => absurd hq' h9)⟩) (fun h9 => absurd hp' h9)))
