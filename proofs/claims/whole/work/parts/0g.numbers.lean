/-! Numbers in base four -/
def nd : Nat → Nat → Nat
  | 0, _ => 0
  | f + 1, n => if n = 0 then 0 else nd f (n / 4) + 1
def ds : Nat → Nat → Nat
  | 0, _ => 0
  | f + 1, n => if n = 0 then 0 else ds f (n / 4) + n % 4
theorem nd_le : ∀ (f n : Nat), nd f n ≤ f
  | 0, _ => Nat.le_refl _
  | f + 1, n => by
    unfold nd
    have := nd_le f (n / 4)
    split <;> omega
theorem ds_le : ∀ (f n : Nat), ds f n ≤ 3 * f
  | 0, _ => Nat.le_refl _
  | f + 1, n => by
    unfold ds
    have := ds_le f (n / 4)
    have h4 : n % 4 < 4 := Nat.mod_lt _ (by omega)
    split <;> omega
theorem p4s (f : Nat) : 4 ^ (f + 1) = 4 * 4 ^ f := by rw [Nat.pow_succ, Nat.mul_comm]
theorem p4d {n f : Nat} (h : n < 4 ^ (f + 1)) : n / 4 < 4 ^ f := by
  rw [p4s] at h
  omega
theorem p416 {n : Nat} (h : n < 2 ^ 31) : n < 4 ^ 16 := by
  have : (4 : Nat) ^ 16 = 4294967296 := by decide
  omega
def fDig (x : Int32) : Int32 := nI (1 + nd 16 (x.toNatClampNeg / 4))
def fSum (x : Int32) : Int32 := nI (ds 16 x.toNatClampNeg)
theorem zRem_n {a d : Nat} (ha : a < 2 ^ 31) (h0 : 0 < d) (hd : d < 2 ^ 31) : zRem (nI a) (nI d) = nI (a % d) := pk_rem ha h0 hd
theorem w_M_digits_6 : ∀ (f n acc : Nat) {x0 : Int32} {S : ZSt} {Q : ZOut → ZSt → Prop}, zSh S → n < 4 ^ f → n < 2 ^ 31 → acc + f < 2 ^ 31 → Q (.inl (some (.int (nI (acc + nd f n))))) S → zW 1 m_M_digits 6 [some (.int x0), some (.int (nI acc)), some (.int (nI n))] [] S Q
  | 0, n, acc, x0, S, Q, hS, hn, _, ha, h => by
    obtain rfl : n = 0 := by omega
    exact b_M_digits_6 hS (pk_le 0 0 (fun _ => h) (fun h9 => by omega))
  | f + 1, n, acc, x0, S, Q, hS, hn, hn2, ha, h => by
    refine b_M_digits_6 hS (pk_le n 0 (fun h9 => ?_) (fun h9 => ⟨by decide, ?_⟩))
    · obtain rfl : n = 0 := by omega
      exact h
    · rw [nI_add, pk_div hn2 (by omega) (by omega)]
      refine w_M_digits_6 f (n / 4) (acc + 1) hS (p4d hn) (by omega) (by omega) ?_
      unfold nd at h
      rw [if_neg (by omega)] at h
      rw [show acc + 1 + nd f (n / 4) = acc + (nd f (n / 4) + 1) by omega]
      exact h
theorem w_M_digits {x : Int32} {S : ZSt} {Q : ZOut → ZSt → Prop} (hS : zSh S) (hx : ¬ (x < (nI 0))) (h : Q (.inl (some (.int (fDig x)))) S) : zC m_M_digits [.int x] S Q := by
  obtain ⟨n, hn, rfl⟩ := znat hx
  refine b_M_digits hS ⟨by decide, ?_⟩
  rw [pk_div hn (by omega) (by omega)]
  refine w_M_digits_6 16 (n / 4) 1 hS (p416 (by omega)) (by omega) (by omega) ?_
  unfold fDig at h
  rw [zcl9 hn] at h
  exact h
theorem w_Re_placesFor_6 : ∀ (f n acc : Nat) {x0 : Int32} {S : ZSt} {Q : ZOut → ZSt → Prop}, zSh S → n < 4 ^ f → n < 2 ^ 31 → acc + f < 2 ^ 31 → Q (.inl (some (.int (nI (acc + nd f n))))) S → zW 1 m_Re_placesFor 6 [some (.int x0), some (.int (nI acc)), some (.int (nI n))] [] S Q
  | 0, n, acc, x0, S, Q, hS, hn, _, ha, h => by
    obtain rfl : n = 0 := by omega
    exact b_Re_placesFor_6 hS (pk_le 0 0 (fun _ => h) (fun h9 => by omega))
  | f + 1, n, acc, x0, S, Q, hS, hn, hn2, ha, h => by
    refine b_Re_placesFor_6 hS (pk_le n 0 (fun h9 => ?_) (fun h9 => ⟨by decide, ?_⟩))
    · obtain rfl : n = 0 := by omega
      exact h
    · rw [nI_add, pk_div hn2 (by omega) (by omega)]
      refine w_Re_placesFor_6 f (n / 4) (acc + 1) hS (p4d hn) (by omega) (by omega) ?_
      unfold nd at h
      rw [if_neg (by omega)] at h
      rw [show acc + 1 + nd f (n / 4) = acc + (nd f (n / 4) + 1) by omega]
      exact h
theorem w_Re_placesFor {x : Int32} {S : ZSt} {Q : ZOut → ZSt → Prop} (hS : zSh S) (hx : ¬ (x < (nI 0))) (h : Q (.inl (some (.int (fDig x)))) S) : zC m_Re_placesFor [.int x] S Q := by
  obtain ⟨n, hn, rfl⟩ := znat hx
  refine b_Re_placesFor hS ⟨by decide, ?_⟩
  rw [pk_div hn (by omega) (by omega)]
  refine w_Re_placesFor_6 16 (n / 4) 1 hS (p416 (by omega)) (by omega) (by omega) ?_
  unfold fDig at h
  rw [zcl9 hn] at h
  exact h
theorem w_M_digitSum_4 : ∀ (f n acc : Nat) {x0 : Int32} {S : ZSt} {Q : ZOut → ZSt → Prop}, zSh S → n < 4 ^ f → n < 2 ^ 31 → acc + 3 * f < 2 ^ 31 → Q (.inl (some (.int (nI (acc + ds f n))))) S → zW 1 m_M_digitSum 4 [some (.int x0), some (.int (nI acc)), some (.int (nI n))] [] S Q
  | 0, n, acc, x0, S, Q, hS, hn, _, ha, h => by
    obtain rfl : n = 0 := by omega
    exact b_M_digitSum_4 hS (pk_le 0 0 (fun _ => h) (fun h9 => by omega))
  | f + 1, n, acc, x0, S, Q, hS, hn, hn2, ha, h => by
    refine b_M_digitSum_4 hS (pk_le n 0 (fun h9 => ?_) (fun h9 => ⟨by decide, by decide, ?_⟩))
    · obtain rfl : n = 0 := by omega
      exact h
    · rw [zRem_n hn2 (by omega) (by omega), nI_add, pk_div hn2 (by omega) (by omega)]
      refine w_M_digitSum_4 f (n / 4) (acc + n % 4) hS (p4d hn) (by omega) (by omega) ?_
      unfold ds at h
      rw [if_neg (by omega)] at h
      rw [show acc + n % 4 + ds f (n / 4) = acc + (ds f (n / 4) + n % 4) by omega]
      exact h
theorem w_M_digitSum {x : Int32} {S : ZSt} {Q : ZOut → ZSt → Prop} (hS : zSh S) (hx : ¬ (x < (nI 0))) (h : Q (.inl (some (.int (fSum x)))) S) : zC m_M_digitSum [.int x] S Q := by
  obtain ⟨n, hn, rfl⟩ := znat hx
  refine b_M_digitSum hS ?_
  refine w_M_digitSum_4 16 n 0 hS (p416 hn) hn (by omega) ?_
  unfold fSum at h
  rw [zcl9 hn] at h
  rw [Nat.zero_add]
  exact h
theorem w_Re_pebblesOf_4 : ∀ (f n acc : Nat) {x0 : Int32} {S : ZSt} {Q : ZOut → ZSt → Prop}, zSh S → n < 4 ^ f → n < 2 ^ 31 → acc + 3 * f < 2 ^ 31 → Q (.inl (some (.int (nI (acc + ds f n))))) S → zW 1 m_Re_pebblesOf 4 [some (.int x0), some (.int (nI acc)), some (.int (nI n))] [] S Q
  | 0, n, acc, x0, S, Q, hS, hn, _, ha, h => by
    obtain rfl : n = 0 := by omega
    exact b_Re_pebblesOf_4 hS (pk_le 0 0 (fun _ => h) (fun h9 => by omega))
  | f + 1, n, acc, x0, S, Q, hS, hn, hn2, ha, h => by
    refine b_Re_pebblesOf_4 hS (pk_le n 0 (fun h9 => ?_) (fun h9 => ⟨by decide, by decide, ?_⟩))
    · obtain rfl : n = 0 := by omega
      exact h
    · rw [zRem_n hn2 (by omega) (by omega), nI_add, pk_div hn2 (by omega) (by omega)]
      refine w_Re_pebblesOf_4 f (n / 4) (acc + n % 4) hS (p4d hn) (by omega) (by omega) ?_
      unfold ds at h
      rw [if_neg (by omega)] at h
      rw [show acc + n % 4 + ds f (n / 4) = acc + (ds f (n / 4) + n % 4) by omega]
      exact h
theorem w_Re_pebblesOf {x : Int32} {S : ZSt} {Q : ZOut → ZSt → Prop} (hS : zSh S) (hx : ¬ (x < (nI 0))) (h : Q (.inl (some (.int (fSum x)))) S) : zC m_Re_pebblesOf [.int x] S Q := by
  obtain ⟨n, hn, rfl⟩ := znat hx
  refine b_Re_pebblesOf hS ?_
  refine w_Re_pebblesOf_4 16 n 0 hS (p416 hn) hn (by omega) ?_
  unfold fSum at h
  rw [zcl9 hn] at h
  rw [Nat.zero_add]
  exact h
/-! how many words tell a number -/
def tl : Nat → Nat → Nat → Nat → Nat
  | 0, _, _, _ => 0
  | f + 1, n, b, r => if r ≤ n then tl f n b (r * b) + 1 else 0
theorem tl_le : ∀ (f n b r : Nat), tl f n b r ≤ f
  | 0, _, _, _ => Nat.le_refl _
  | f + 1, n, b, r => by
    unfold tl
    have := tl_le f n b (r * b)
    split <;> omega
def fTell (x w : Int32) : Int32 := nI (tl 32 x.toNatClampNeg (w.toNatClampNeg + 1) 1)
theorem p2s (f : Nat) : 2 ^ (f + 1) = 2 * 2 ^ f := by rw [Nat.pow_succ, Nat.mul_comm]
theorem lg_gt {x y : Int64} : 0 < lg_cmp x y ↔ y < x := by
  unfold lg_cmp
  split
  · rename_i h
    exact ⟨fun _ => h, fun _ => by decide⟩
  · rename_i h
    split
    · exact ⟨fun h9 => absurd h9 (by decide), fun h9 => absurd h9 h⟩
    · exact ⟨fun h9 => absurd h9 (by decide), fun h9 => absurd h9 h⟩
theorem w_Re_telling_4 : ∀ (f n w acc r : Nat) {S : ZSt} {Q : ZOut → ZSt → Prop}, zSh S → n < 2 ^ 31 → 1 ≤ w → w ≤ 10 → 0 < r → r ≤ 11 * (n + 1) → n < r * 2 ^ f → acc + f < 2 ^ 31 → Q (.inl (some (.int (nI (acc + tl f n (w + 1) r))))) S →
    zW 1 m_Re_telling 4 [some (.int (nI n)), some (.int (nI w)), some (.int (nI acc)), some (.long (lN r)), none] [] S Q
  | 0, n, w, acc, r, S, Q, hS, hn, hw, hw2, hr, hr2, hf, ha, h => by
    refine b_Re_telling_4 hS ⟨fun _ => h, fun h9 => absurd ?_ h9⟩
    rw [lg_gt, nI_l hn, pk_lLT (by omega) (by omega)]
    omega
  | f + 1, n, w, acc, r, S, Q, hS, hn, hw, hw2, hr, hr2, hf, ha, h => by
    refine b_Re_telling_4 hS ⟨fun h9 => ?_, fun h9 => ?_⟩
    · rw [lg_gt, nI_l hn, pk_lLT (by omega) (by omega)] at h9
      unfold tl at h
      rw [if_neg (by omega)] at h
      exact h
    · rw [lg_gt, nI_l hn, pk_lLT (by omega) (by omega)] at h9
      have e1 : (if nI 2 < nI w + nI 1 then nI w + nI 1 else nI 2) = nI (w + 1) := by
        rw [nI_add]
        by_cases h2 : 2 < w + 1
        · rw [if_pos ((nI_ltI (by omega) (by omega)).mpr h2)]
        · rw [if_neg (fun h3 => h2 ((nI_ltI (by omega) (by omega)).mp h3))]
          congr 1
          omega
      rw [e1, nI_add, nI_l (by omega), lN_mul]
      have hm : r * (w + 1) ≤ r * 11 := Nat.mul_le_mul_left r (by omega)
      have hm2 : r * 2 ≤ r * (w + 1) := Nat.mul_le_mul_left r (by omega)
      refine w_Re_telling_4 f n w (acc + 1) (r * (w + 1)) hS hn hw hw2 (by omega) (by omega) ?_ (by omega) ?_
      · have h3 : r * 2 * 2 ^ f ≤ r * (w + 1) * 2 ^ f := Nat.mul_le_mul_right _ hm2
        rw [p2s, ← Nat.mul_assoc] at hf
        omega
      · unfold tl at h
        rw [if_pos (by omega)] at h
        rw [show acc + 1 + tl f n (w + 1) (r * (w + 1)) = acc + (tl f n (w + 1) (r * (w + 1)) + 1) by omega]
        exact h
theorem w_M_tellBy_4 : ∀ (f n w acc r : Nat) {S : ZSt} {Q : ZOut → ZSt → Prop}, zSh S → n < 2 ^ 31 → 1 ≤ w → w ≤ 10 → 0 < r → r ≤ 11 * (n + 1) → n < r * 2 ^ f → acc + f < 2 ^ 31 → Q (.inl (some (.int (nI (acc + tl f n (w + 1) r))))) S →
    zW 1 m_M_tellBy 4 [some (.int (nI n)), some (.int (nI w)), some (.long (lN r)), none, some (.int (nI acc))] [] S Q
  | 0, n, w, acc, r, S, Q, hS, hn, hw, hw2, hr, hr2, hf, ha, h => by
    refine b_M_tellBy_4 hS ⟨fun _ => h, fun h9 => absurd ?_ h9⟩
    rw [lg_cmp_ge, nI_l hn, lN_add, pk_lLE (by omega) (by omega)]
    omega
  | f + 1, n, w, acc, r, S, Q, hS, hn, hw, hw2, hr, hr2, hf, ha, h => by
    refine b_M_tellBy_4 hS ⟨fun h9 => ?_, fun h9 => ?_⟩
    · rw [lg_cmp_ge, nI_l hn, lN_add, pk_lLE (by omega) (by omega)] at h9
      unfold tl at h
      rw [if_neg (by omega)] at h
      exact h
    · rw [lg_cmp_ge, nI_l hn, lN_add, pk_lLE (by omega) (by omega)] at h9
      rw [nI_add, nI_l (by omega), lN_add, lN_mul]
      have hm : r * (w + 1) ≤ r * 11 := Nat.mul_le_mul_left r (by omega)
      have hm2 : r * 2 ≤ r * (w + 1) := Nat.mul_le_mul_left r (by omega)
      refine w_M_tellBy_4 f n w (acc + 1) (r * (w + 1)) hS hn hw hw2 (by omega) (by omega) ?_ (by omega) ?_
      · have h3 : r * 2 * 2 ^ f ≤ r * (w + 1) * 2 ^ f := Nat.mul_le_mul_right _ hm2
        rw [p2s, ← Nat.mul_assoc] at hf
        omega
      · unfold tl at h
        rw [if_pos (by omega)] at h
        rw [show acc + 1 + tl f n (w + 1) (r * (w + 1)) = acc + (tl f n (w + 1) (r * (w + 1)) + 1) by omega]
        exact h
theorem w_Re_telling {x w : Int32} {S : ZSt} {Q : ZOut → ZSt → Prop} (hS : zSh S) (hx : ¬ (x < (nI 0))) (hw : 1 ≤ w.toInt ∧ w.toInt ≤ 10) (h : Q (.inl (some (.int (fTell x w)))) S) : zC m_Re_telling [.int x, .int w] S Q := by
  obtain ⟨n, hn, rfl⟩ := znat hx
  obtain ⟨k, hk, rfl⟩ : ∃ k : Nat, k < 2 ^ 31 ∧ w = nI k := ⟨w.toInt.toNat, by omega, zofN (by omega)⟩
  rw [nI_toInt hk] at hw
  refine b_Re_telling hS ?_
  refine w_Re_telling_4 32 n k 0 1 hS hn (by omega) (by omega) (by omega) (by omega) (by omega) (by omega) ?_
  unfold fTell at h
  rw [zcl9 hn, zcl9 hk] at h
  rw [Nat.zero_add]
  exact h
theorem w_M_tellBy {x w : Int32} {S : ZSt} {Q : ZOut → ZSt → Prop} (hS : zSh S) (hx : ¬ (x < (nI 0))) (hw : 1 ≤ w.toInt ∧ w.toInt ≤ 10) (h : Q (.inl (some (.int (fTell x w)))) S) : zC m_M_tellBy [.int x, .int w] S Q := by
  obtain ⟨n, hn, rfl⟩ := znat hx
  obtain ⟨k, hk, rfl⟩ : ∃ k : Nat, k < 2 ^ 31 ∧ w = nI k := ⟨w.toInt.toNat, by omega, zofN (by omega)⟩
  rw [nI_toInt hk] at hw
  refine b_M_tellBy hS ?_
  refine w_M_tellBy_4 32 n k 0 1 hS hn (by omega) (by omega) (by omega) (by omega) (by omega) (by omega) ?_
  unfold fTell at h
  rw [zcl9 hn, zcl9 hk] at h
  rw [Nat.zero_add]
  exact h
