/-! Rounds of trade: both sides -/
def dg8 (L D i : Nat) : Nat := D / 8 ^ (L - 1 - i) % 8
theorem dg8_lt {L D i : Nat} : dg8 L D i < 8 := Nat.mod_lt _ (by omega)
theorem zshr3 {n k : Nat} (hn : n < 2 ^ 31) (hk : k ≤ 3) : zShr (nI n) (nI (3 * k)) &&& nI 7 = nI (n / 8 ^ k % 8) := by
  have e : zShr (nI n) (nI (3 * k)) = nI (n / 2 ^ (3 * k)) := by
    rcases (show k = 0 ∨ k = 1 ∨ k = 2 ∨ k = 3 by omega) with rfl | rfl | rfl | rfl
    · exact pk_shrN hn _ 0 (by decide)
    · exact pk_shrN hn _ 3 (by decide)
    · exact pk_shrN hn _ 6 (by decide)
    · exact pk_shrN hn _ 9 (by decide)
  have hb : n / 2 ^ (3 * k) < 2 ^ 32 := Nat.lt_of_le_of_lt (Nat.div_le_self _ _) (by omega)
  rw [e, pk_andN hb 3 (by decide), Nat.pow_mul]
theorem zdg {L D i : Nat} (hD : D < 2 ^ 31) (hL : L ≤ 4) (hi : i < L) : zShr (nI D) (nI 3 * ((nI L - nI 1) - nI i)) &&& nI 7 = nI (dg8 L D i) := by
  rw [zsub1 (by omega), pk_sub (by omega), pk_mul, zshr3 hD (by omega)]
  rfl
theorem zdg2 {L D i : Nat} (hD : D < 2 ^ 31) (hL : L ≤ 4) (hi : i + 1 < L) : zShr (nI D) (nI 3 * ((nI L - nI 2) - nI i)) &&& nI 7 = nI (dg8 L D (i + 1)) := by
  rw [pk_sub (by omega), pk_sub (by omega), pk_mul, zshr3 hD (by omega)]
  unfold dg8
  rw [show L - 1 - (i + 1) = L - 2 - i by omega]
def chkM : Bool := (List.range 256).all fun m => (List.range 8).all fun g => (decide (zShr (nI m) (nI g) &&& nI 1 = nI (bit m g)) && (decide (nI m ||| zShl (nI 1) (nI g) = nI (Nat.lor m (2 ^ g))) && Nat.blt (Nat.lor m (2 ^ g)) 256)) && (List.range 8).all fun h => Nat.beq (bit (Nat.lor m (2 ^ g)) h) (if Nat.beq h g then 1 else bit m h)
theorem chkM_t : chkM = true := by decide +kernel
theorem chkM_at {m g : Nat} (hm : m < 256) (hg : g < 8) : zShr (nI m) (nI g) &&& nI 1 = nI (bit m g) ∧ nI m ||| zShl (nI 1) (nI g) = nI (Nat.lor m (2 ^ g)) ∧ Nat.lor m (2 ^ g) < 256 ∧ ∀ h, h < 8 → bit (Nat.lor m (2 ^ g)) h = if h = g then 1 else bit m h := by
  have h := chkM_t
  unfold chkM at h
  rw [List.all_eq_true] at h
  have h1 := h m (List.mem_range.mpr hm)
  rw [List.all_eq_true] at h1
  obtain ⟨h2, h3⟩ := zand (h1 g (List.mem_range.mpr hg))
  obtain ⟨h4, h5⟩ := zand h2
  obtain ⟨h5, h6⟩ := zand h5
  refine ⟨of_decide_eq_true h4, of_decide_eq_true h5, Nat.le_of_ble_eq_true h6, fun j hj => ?_⟩
  rw [List.all_eq_true] at h3
  have h7 := Nat.eq_of_beq_eq_true (h3 j (List.mem_range.mpr hj))
  rw [h7]
  by_cases e : j = g
  · rw [if_pos e, e, Nat.beq_refl]
    rfl
  · rw [if_neg e]
    have : Nat.beq j g = false := by
      cases hb : Nat.beq j g with
      | false => rfl
      | true => exact absurd (Nat.eq_of_beq_eq_true hb) e
    rw [this]
    rfl
/-- a mask of what was seen of a list -/
def mkP (L D i m : Nat) : Prop := m < 256 ∧ ∀ g, g < 8 → (bit m g = 1 ↔ ∃ j, j < i ∧ dg8 L D j = g)
theorem mkP_0 {L D : Nat} : mkP L D 0 0 := ⟨by omega, fun g hg => ⟨fun h => by
  unfold bit at h
  rw [Nat.zero_div] at h
  omega, fun ⟨j, hj, _⟩ => by omega⟩⟩
theorem mkP_s {L D i m : Nat} (h : mkP L D i m) : mkP L D (i + 1) (Nat.lor m (2 ^ dg8 L D i)) := by
  obtain ⟨c1, c2, c3, c4⟩ := chkM_at h.1 (dg8_lt (L := L) (D := D) (i := i))
  refine ⟨c3, fun g hg => ?_⟩
  rw [c4 g hg]
  by_cases e : g = dg8 L D i
  · rw [if_pos e]
    exact ⟨fun _ => ⟨i, by omega, e.symm⟩, fun _ => rfl⟩
  · rw [if_neg e, h.2 g hg]
    exact ⟨fun ⟨j, a, b⟩ => ⟨j, by omega, b⟩, fun ⟨j, a, b⟩ => ⟨j, by
      by_cases ej : j = i
      · rw [ej] at b
        exact absurd b.symm e
      · omega, b⟩⟩
/-- a round of goods -/
def rdP (G L D : Nat) : Prop := ∀ i, i < L → dg8 L D i < G ∧ ∀ j, j < i → dg8 L D j ≠ dg8 L D i
def nxi (L i : Nat) : Nat := if i + 1 < L then i + 1 else 0
def cel (L D i : Nat) : Nat := 6 * dg8 L D i + dg8 L D (nxi L i)
def tdP (gv : Nat → Nat) (L D : Nat) : Prop := ∀ i, i < L → gv (cel L D i) ≠ 0
def prn (f : Nat → Nat) (L D : Nat) : Nat → Nat
  | 0 => 1
  | k + 1 => prn f L D k * f (cel L D k)
theorem prn_le {f : Nat → Nat} {L D : Nat} (hf : ∀ j, j < 36 → f j ≤ 99) (hc : ∀ i, i < L → cel L D i < 36) : ∀ k, k ≤ L → prn f L D k ≤ 99 ^ k
  | 0, _ => Nat.le_refl _
  | k + 1, h => by
    rw [Nat.pow_succ]
    exact Nat.mul_le_mul (prn_le hf hc k (by omega)) (hf _ (hc k (by omega)))
theorem prn_pos {f : Nat → Nat} {L D : Nat} (h : tdP f L D) : ∀ k, k ≤ L → 0 < prn f L D k
  | 0, _ => by show 0 < 1; omega
  | k + 1, hk => Nat.mul_pos (prn_pos h k (by omega)) (Nat.pos_of_ne_zero (h k (by omega)))
theorem cel_lt {G L D i : Nat} (hG : G ≤ 6) (hL : 1 ≤ L) (hr : rdP G L D) (hi : i < L) : cel L D i < 36 := by
  have h1 := (hr i hi).1
  have h2 : nxi L i < L := by unfold nxi; split <;> omega
  have h3 := (hr _ h2).1
  unfold cel
  omega
/-! the object's side -/
def zG (S S' : ZSt) : Prop := S'.2.2 = S.2.2 ∧ ∀ c, c ≠ 125 → c ≠ 129 → zI S' c = zI S c
theorem zG.rf {S : ZSt} : zG S S := ⟨rfl, fun _ _ _ => rfl⟩
theorem zG.tr {S S1 S2 : ZSt} (h1 : zG S S1) (h2 : zG S1 S2) : zG S S2 := ⟨h2.1.trans h1.1, fun c a b => (h2.2 c a b).trans (h1.2 c a b)⟩
theorem zG.sh {S S1 : ZSt} (h : zG S S1) (hS : zSh S) : zSh S1 := by
  have e1 : zc S1 = zc S := by show S1.2.2.2.2.1 = S.2.2.2.2.1; rw [h.1]
  have e2 : zn S1 = zn S := by show S1.2.2.2.1 = S.2.2.2.1; rw [h.1]
  have e3 : zR S1 = zR S := by show S1.2.2.1 = S.2.2.1; rw [h.1]
  have e4 : zx S1 = zx S := by show S1.2.2.2.2.2.1 = S.2.2.2.2.2.1; rw [h.1]
  unfold zSh
  rw [e1, e2, e3, e4]
  exact hS
theorem zG.h {S S1 : ZSt} (h : zG S S1) : zH lO S S1 := by
  have e3 : zR S1 = zR S := by show S1.2.2.1 = S.2.2.1; rw [h.1]
  exact ⟨by rw [h.1], fun c _ => by rw [e3], fun h9 => by rw [e3]; exact h9, fun c hc _ => h.2 c (fun e => by rw [e] at hc; cases hc) (fun e => by rw [e] at hc; cases hc)⟩
theorem zG.I {S S1 : ZSt} (h : zG S S1) {a k : Nat} {v : Int32} (ha : a = 125 ∨ a = 129) : zG S (zsI S1 a k v) := ⟨h.1, fun c a1 a2 => by
  rw [zI_ne _ _ (by omega)]
  exact h.2 c a1 a2⟩
theorem zG.L {S S1 : ZSt} (h : zG S S1) {k : Nat} {v : Int64} : zG S (zsL S1 125 k v) := ⟨h.1, h.2⟩
theorem w_Re_isRound_4 {G L D : Nat} (hG : G ≤ 6) (hL : L ≤ 4) (hD : D < 2 ^ 31) {Q : ZOut → ZSt → Prop} : ∀ (f i m : Nat) {u6 : Option Value} {S : ZSt}, zSh S → f + i = L → mkP L D i m → (∀ j, j < i → dg8 L D j < G ∧ ∀ k, k < j → dg8 L D k ≠ dg8 L D j) → (∀ j, j < i → zI S 129 j = nI (dg8 L D j)) → (rdP G L D → ∀ S', zJ [129] S S' → (∀ j, j < L → zI S' 129 j = nI (dg8 L D j)) → Q (.inl (some (.int (nI 1)))) S') → (¬ rdP G L D → ∀ S', zJ [129] S S' → Q (.inl (some (.int (nI 0)))) S') → zW 1 m_Re_isRound 4 [some (.ref 125), some (.int (nI D)), some (.int (nI L)), some (.int (nI G)), some (.int (nI m)), some (.int (nI i)), u6] [] S Q
  | 0, i, m, u6, S, hS, hi, hm, hr, hs, h1, h0 => by
    obtain rfl : i = L := by omega
    exact b_Re_isRound_4 hS ⟨fun _ => ⟨rfl, h1 hr S zJ.rf hs⟩, fun h9 => absurd (nI_le (Nat.le_refl _) (by omega)) h9⟩
  | f + 1, i, m, u6, S, hS, hi, hm, hr, hs, h1, h0 => by
    have hd := dg8_lt (L := L) (D := D) (i := i)
    obtain ⟨c1, c2, c3, c4⟩ := chkM_at hm.1 hd
    refine b_Re_isRound_4 hS ⟨fun h9 => absurd h9 (nI_ge (by omega) (by omega)), fun _ => ⟨fun h9 => absurd h9 (nI_ge (by omega) (by omega)), fun _ => ?_⟩⟩
    rw [zdg hD hL (by omega), c1, c2, nI_add, zcl9 (by omega)]
    have hb := bit_lt (n := m) (k := dg8 L D i)
    refine ⟨fun h9 => ⟨rfl, h0 (fun h => ?_) S zJ.rf⟩, fun h9 => ⟨fun h8 => ⟨zin (by omega) (by omega), ?_⟩, fun h8 => ⟨rfl, h0 (fun h => ?_) S zJ.rf⟩⟩⟩
    · exact absurd h9 (nI_ge (h i (by omega)).1 (by omega))
    · have g1 : dg8 L D i < G := Nat.not_le.mp (fun h7 => h9 (nI_le h7 (by omega)))
      have g2 : ¬ ∃ j, j < i ∧ dg8 L D j = dg8 L D i := fun h7 => h8 (by rw [(hm.2 _ hd).mpr h7])
      have j : zJ [129] S (zsI S 129 i (nI (dg8 L D i))) := zJ.rf.I rfl
      refine w_Re_isRound_4 hG hL hD f (i + 1) (Nat.lor m (2 ^ dg8 L D i)) (S := zsI S 129 i (nI (dg8 L D i))) hS (by omega) (mkP_s hm) (fun j hj => ?_) (fun j hj => ?_) (fun hb S' j' => h1 hb S' (j.tr j')) (fun hb S' j' => h0 hb S' (j.tr j'))
      · by_cases e : j = i
        · subst e
          exact ⟨g1, fun k hk e2 => g2 ⟨k, hk, e2⟩⟩
        · exact hr j (by omega)
      · rw [zI_eq, zupd]
        by_cases e : j = i
        · rw [if_pos e, e]
        · rw [if_neg e]
          exact hs j (by omega)
    · have e1 : bit m (dg8 L D i) = 1 := nEq (by omega) (by omega) (Classical.not_not.mp h8)
      obtain ⟨j, hj, e⟩ := (hm.2 _ hd).mp e1
      exact (h i (by omega)).2 j hj e
def jGT (S : ZSt) (gv gt : Nat → Nat) : Prop := ∀ j, j < 36 → (zI S 101 j = nI (gv j) ∧ gv j ≤ 99) ∧ zI S 102 j = nI (gt j) ∧ gt j ≤ 99
theorem w_Re_isTraded_8 {G L D : Nat} {gv gt : Nat → Nat} (hG : G ≤ 6) (hL : 2 ≤ L ∧ L ≤ 4) (hr : rdP G L D) {Q : ZOut → ZSt → Prop} : ∀ (f i : Nat) {u4 u5 : Option Value} {S : ZSt}, zSh S → jGT S gv gt → (∀ j, j < L → zI S 129 j = nI (dg8 L D j)) → f + i = L → (∀ j, j < i → gv (cel L D j) ≠ 0) → zL S 125 7 = lN (prn gt L D i) → zL S 125 8 = lN (prn gv L D i) → (tdP gv L D → ∀ S', zG S S' → zI S' 125 = zI S 125 → zL S' 125 5 = zL S 125 5 → zL S' 125 6 = zL S 125 6 → zL S' 125 7 = lN (prn gt L D L) → zL S' 125 8 = lN (prn gv L D L) → Q (.inl (some (.int (nI 1)))) S') → (¬ tdP gv L D → ∀ S', zG S S' → zI S' 125 = zI S 125 → zL S' 125 5 = zL S 125 5 → zL S' 125 6 = zL S 125 6 → Q (.inl (some (.int (nI 0)))) S') → zW 2 m_Re_isTraded 8 [some (.ref 125), some (.ref 92), some (.int (nI L)), some (.int (nI i)), u4, u5] [] S Q
  | 0, i, u4, u5, S, hS, hj, hs, hi, ht, e7, e8, h1, h0 => by
    obtain rfl : i = L := by omega
    exact b_Re_isTraded_8 hS ⟨fun _ => ⟨rfl, h1 ht S zG.rf rfl rfl rfl e7 e8⟩, fun h9 => absurd (nI_le (Nat.le_refl _) (by omega)) h9⟩
  | f + 1, i, u4, u5, S, hS, hj, hs, hi, ht, e7, e8, h1, h0 => by
    have hcl := cel_lt (i := i) hG (by omega) hr (by omega)
    have hn : nxi L i < L := by unfold nxi; split <;> omega
    obtain ⟨⟨a1, a2⟩, a3, a4⟩ := hj (cel L D i) hcl
    have body : ∀ {x4 : Int32}, zC m_N_isNot [.int (nI (cel L D i)), .int (nI 0), .int (nI 35)] S (zback m_Re_isTraded 74 48 [some (.ref 125), some (.ref 92), some (.int (nI L)), some (.int (nI i)), some (.int x4), some (.int (nI (cel L D i)))] [] (fun i1 l1 s1 S1 => zW 2 m_Re_isTraded i1 l1 s1 S1 Q) (fun x S1 => Q (.inr x) S1)) := fun {x4} => by
      refine w_N_isNot0 hS (nI_nlt (by omega) (by omega)) (nI_le (by omega) (by omega)) (b_Re_isTraded_49 hS ⟨fun h9 => absurd (by decide) h9, fun _ => ⟨zin (by omega) (by omega), ?_⟩⟩)
      rw [zcl9 (by omega), a1, a3, nI_z (by omega)]
      refine ⟨fun h9 => ⟨zin (by omega) (by omega), zin (by omega) (by omega), ?_⟩, fun h9 => ⟨rfl, h0 (fun h => ?_) S zG.rf rfl rfl rfl⟩⟩
      · rw [e7, e8, nI_l (by omega), nI_l (by omega), lN_mul, lN_mul, nI_add]
        have j : zG S (zsL (zsL S 125 7 (lN (prn gt L D i * gt (cel L D i)))) 125 8 (lN (prn gv L D i * gv (cel L D i)))) := zG.rf.L.L
        refine w_Re_isTraded_8 hG hL hr f (i + 1) (S := zsL (zsL S 125 7 (lN (prn gt L D i * gt (cel L D i)))) 125 8 (lN (prn gv L D i * gv (cel L D i)))) hS hj hs (by omega) (fun j hj2 => ?_) rfl rfl (fun hb S' j' => h1 hb S' (j.tr j')) (fun hb S' j' => h0 hb S' (j.tr j'))
        by_cases e : j = i
        · rw [e]
          exact h9
        · exact ht j (by omega)
      · exact h9 (h i (by omega))
    refine b_Re_isTraded_8 hS ⟨fun h9 => absurd h9 (nI_ge (by omega) (by omega)), fun _ => ⟨fun h9 => absurd h9 (nI_ge (by omega) (by omega)), fun _ => ?_⟩⟩
    rw [nI_add, zcl9 (by omega), zcl9 (by omega), hs i (by omega), hs 0 (by omega)]
    by_cases hlast : i + 1 < L
    · have en : nxi L i = i + 1 := if_pos hlast
      rw [hs (i + 1) hlast, pk_mul, nI_add, nI_add]
      have ec : dg8 L D i * 6 + dg8 L D (i + 1) = cel L D i := by unfold cel; rw [en]; omega
      rw [ec]
      exact ⟨fun h9 => absurd h9 (nI_ge (by omega) (by omega)), fun _ => ⟨fun h9 => absurd h9 (nI_ge (by omega) (by omega)), fun _ => ⟨zin (by omega) (by omega), zin (by omega) (by omega), body⟩⟩⟩
    · have en : nxi L i = 0 := if_neg hlast
      rw [pk_mul, nI_add]
      have ec : dg8 L D i * 6 + dg8 L D 0 = cel L D i := by unfold cel; rw [en]; omega
      rw [ec]
      exact ⟨fun _ => ⟨zinl rfl, zin (by omega) (by omega), body⟩, fun h9 => absurd (nI_le (by omega) (by omega)) h9⟩
