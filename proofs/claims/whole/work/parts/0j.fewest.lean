/-! The most pebbles of a number up to n -/
theorem ds_fuel : ∀ (f n : Nat), n < 4 ^ f → ds (f + 1) n = ds f n
  | 0, n, h => by
    obtain rfl : n = 0 := by omega
    rfl
  | f + 1, n, h => by
    show (if n = 0 then 0 else ds (f + 1) (n / 4) + n % 4) = (if n = 0 then 0 else ds f (n / 4) + n % 4)
    rw [ds_fuel f (n / 4) (p4d h)]
theorem ds_4 {q : Nat} (hq : 0 < q) (h : q < 2 ^ 29) : ds 16 (4 * q - 1) = ds 16 (q - 1) + 3 := by
  have e : (4 : Nat) ^ 15 = 1073741824 := by decide
  rw [ds_fuel 15 (q - 1) (by omega)]
  show (if 4 * q - 1 = 0 then 0 else ds 15 ((4 * q - 1) / 4) + (4 * q - 1) % 4) = _
  rw [if_neg (by omega), show (4 * q - 1) / 4 = q - 1 by omega, show (4 * q - 1) % 4 = 3 by omega]
def mp : Nat → Nat → Nat → Nat → Nat
  | 0, _, _, m => m
  | f + 1, n, k, m => if n = 0 then m else mp f (n / 4) (k + 3) (max m (ds 16 (n - 1) + k))
def fMost (x : Int32) : Int32 := nI (mp 16 x.toNatClampNeg 0 (ds 16 x.toNatClampNeg))
theorem mp_skip {f n k m : Nat} (h : n < 4 ^ f) (h2 : n < 2 ^ 29) (h0 : 0 < n) : mp f n (k + 3) (max m (ds 16 (4 * n - 1) + k)) = mp f n (k + 3) m := by
  cases f with
  | zero => omega
  | succ f =>
    rw [mp, mp, if_neg (by omega), if_neg (by omega), ds_4 h0 h2]
    congr 1
    omega
theorem zmax {a b : Nat} (ha : a < 2 ^ 31) (hb : b < 2 ^ 31) : (if nI a < nI b then nI b else nI a) = nI (max a b) := by
  by_cases h : a < b
  · rw [if_pos ((nI_ltI ha hb).mpr h)]
    congr 1
    omega
  · rw [if_neg (fun h3 => h ((nI_ltI ha hb).mp h3))]
    congr 1
    omega
theorem w_Re_mostPebbles_7 : ∀ (f n k m : Nat) {x0 : Int32} {S : ZSt} {Q : ZOut → ZSt → Prop}, zSh S → n < 4 ^ f → n < 2 ^ 31 → k + 3 * f < 1000 → m < 10000 → Q (.inl (some (.int (nI (mp f n k m))))) S → zW 2 m_Re_mostPebbles 7 [some (.int x0), some (.int (nI m)), some (.int (nI k)), some (.int (nI n))] [] S Q
  | 0, n, k, m, x0, S, Q, hS, hn, _, hk, hm, h => by
    obtain rfl : n = 0 := by omega
    exact b_Re_mostPebbles_7 hS (pk_le 0 0 (fun _ => h) (fun h9 => by omega))
  | f + 1, n, k, m, x0, S, Q, hS, hn, hn2, hk, hm, h => by
    refine b_Re_mostPebbles_7 hS (pk_le n 0 (fun h9 => ?_) (fun h9 => ?_))
    · obtain rfl : n = 0 := by omega
      exact h
    · rw [zsub1 h9]
      refine w_Re_pebblesOf hS (nI_nlt (Nat.zero_le _) (by omega)) (b_Re_mostPebbles_14 hS ⟨by decide, ?_⟩)
      have e : fSum (nI (n - 1)) = nI (ds 16 (n - 1)) := by
        unfold fSum
        rw [zcl9 (by omega)]
      have hd := ds_le 16 (n - 1)
      rw [e, nI_add, nI_add, zmax (by omega) (by omega), pk_div hn2 (by omega) (by omega)]
      refine w_Re_mostPebbles_7 f (n / 4) (k + 3) (max m (ds 16 (n - 1) + k)) hS (p4d hn) (by omega) (by omega) (by omega) ?_
      rw [mp, if_neg (by omega)] at h
      exact h
theorem w_Re_mostPebbles {x : Int32} {S : ZSt} {Q : ZOut → ZSt → Prop} (hS : zSh S) (hx : ¬ (x < (nI 0))) (h : Q (.inl (some (.int (fMost x)))) S) : zC m_Re_mostPebbles [.int x] S Q := by
  obtain ⟨n, hn, rfl⟩ := znat hx
  refine b_Re_mostPebbles hS (w_Re_pebblesOf hS hx (b_Re_mostPebbles_2 hS ?_))
  have e : fSum (nI n) = nI (ds 16 n) := by
    unfold fSum
    rw [zcl9 hn]
  have hd := ds_le 16 n
  rw [e]
  refine w_Re_mostPebbles_7 16 n 0 (ds 16 n) hS (p416 hn) hn (by omega) (by omega) ?_
  unfold fMost at h
  rw [zcl9 hn] at h
  exact h
/-! the reference goes through the heads of n -/
theorem nd_lt : ∀ (f n : Nat), n < 4 ^ f → n < 4 ^ nd f n
  | 0, n, h => h
  | f + 1, n, h => by
    unfold nd
    split
    · subst_vars
      exact Nat.one_pos
    · have h1 := nd_lt f (n / 4) (p4d h)
      rw [p4s]
      omega
theorem p4_le {k : Nat} (h : k ≤ 17) : 4 ^ k ≤ 17179869184 := by
  have e : (4 : Nat) ^ 17 = 17179869184 := by decide
  rw [← e]
  exact Nat.pow_le_pow_right (by omega) h
theorem p4_pos (k : Nat) : 0 < 4 ^ k := Nat.pow_pos (by omega)
theorem w_M_fewest_16 : ∀ (r k n m : Nat) {u6 u8 : Option Value} {S : ZSt} {Q : ZOut → ZSt → Prop}, zSh S → n < 2 ^ 31 → k + r = 1 + nd 16 (n / 4) → n / 4 ^ k < 4 ^ r → m < 10000 → Q (.inl (some (.int (nI (mp r (n / 4 ^ k) (3 * k) m))))) S →
    zW 3 m_M_fewest 16 [some (.ref 130), some (.int (nI n)), some (.int (nI m)), some (.long (lN (4 ^ k))), none, some (.int (nI k)), u6, none, u8] [] S Q := by
  intro r
  induction r with
  | zero =>
    intro k n m u6 u8 S Q hS hn hk hr hm h
    have hnd := nd_le 16 (n / 4)
    have hp := p4_le (k := k) (by omega)
    have hp0 := p4_pos k
    refine b_M_fewest_16 hS (w_M_digits hS (nI_nlt (Nat.zero_le _) hn) (b_M_fewest_19 hS ?_))
    have e : fDig (nI n) = nI (1 + nd 16 (n / 4)) := by
      unfold fDig
      rw [zcl9 hn]
    rw [e]
    exact pk_le (1 + nd 16 (n / 4)) k (fun h9 => h) (fun h9 => by omega)
  | succ r ih =>
    intro k n m u6 u8 S Q hS hn hk hr hm h
    have hnd := nd_le 16 (n / 4)
    have hp := p4_le (k := k) (by omega)
    have hp0 := p4_pos k
    refine b_M_fewest_16 hS (w_M_digits hS (nI_nlt (Nat.zero_le _) hn) (b_M_fewest_19 hS ?_))
    have e : fDig (nI n) = nI (1 + nd 16 (n / 4)) := by
      unfold fDig
      rw [zcl9 hn]
    rw [e]
    refine pk_le (1 + nd 16 (n / 4)) k (fun h9 => by omega) (fun h9 => ?_)
    have hh : n / 4 ^ k ≤ n := Nat.div_le_self _ _
    have e4 : n / 4 ^ k / 4 = n / 4 ^ (k + 1) := by rw [Nat.div_div_eq_div_mul, Nat.pow_succ]
    rw [nI_l hn, pk_lDiv (by omega) (by omega) (by omega)]
    generalize hq : n / 4 ^ k = q at *
    rw [show zRemL (lN q) (lN 4) = lN (q % 4) from pk_lRem (by omega) (by omega) (by omega), lg_cmp_le, lN_mul, nI_add, show 4 ^ k * 4 = 4 ^ (k + 1) from (Nat.pow_succ ..).symm]
    refine ⟨fun h8 => ?_, by decide, fun h8 => ?_, fun h8 => ?_⟩
    · have h7 : lN (4 ^ k) = lN 0 := h8
      rw [pk_lEQ (by omega) (by omega)] at h7
      omega
    · rw [pk_lLE (by omega) (by omega)] at h8
      refine ih (k + 1) n m hS hn (by omega) (by rw [← e4]; exact p4d hr) hm ?_
      rw [mp] at h
      by_cases h0 : q = 0
      · rw [if_pos h0] at h
        rw [← e4, h0]
        cases r with
        | zero => exact h
        | succ r =>
          rw [mp, if_pos (by omega)]
          exact h
      · rw [if_neg h0] at h
        have h5 : q = 4 * (q / 4) := by omega
        rw [← e4]
        have hs := mp_skip (f := r) (n := q / 4) (k := 3 * k) (m := m) (p4d hr) (by omega) (by omega)
        rw [← h5] at hs
        rw [hs] at h
        rw [show 3 * (k + 1) = 3 * k + 3 by omega]
        exact h
    · rw [pk_lLE (by omega) (by omega)] at h8
      have h0 : ¬ q = 0 := fun h9 => h8 (by rw [h9]; omega)
      rw [lN_sub (by omega), lN_i]
      refine w_M_digitSum hS (nI_nlt (Nat.zero_le _) (by omega)) (b_M_fewest_36 hS ?_)
      have e2 : fSum (nI (q - 1)) = nI (ds 16 (q - 1)) := by
        unfold fSum
        rw [zcl9 (by omega)]
      have hd := ds_le 16 (q - 1)
      rw [mp, if_neg h0, e4] at h
      rw [e2, pk_mul, nI_add, lN_mul, nI_add, show 4 ^ k * 4 = 4 ^ (k + 1) from (Nat.pow_succ ..).symm]
      refine pk_le (ds 16 (q - 1) + 3 * k) m (fun h7 => ?_) (fun h7 => ?_)
      · refine ih (k + 1) n m hS hn (by omega) (by rw [← e4]; exact p4d hr) hm ?_
        rw [show 3 * (k + 1) = 3 * k + 3 by omega]
        rw [show max m (ds 16 (q - 1) + 3 * k) = m by omega] at h
        exact h
      · refine ih (k + 1) n _ hS hn (by omega) (by rw [← e4]; exact p4d hr) (by omega) ?_
        rw [show 3 * (k + 1) = 3 * k + 3 by omega]
        rw [show max m (ds 16 (q - 1) + 3 * k) = ds 16 (q - 1) + 3 * k by omega] at h
        exact h
theorem mp_fuel : ∀ (f n k m : Nat), n < 4 ^ f → mp (f + 1) n k m = mp f n k m
  | 0, n, k, m, h => by
    obtain rfl : n = 0 := by omega
    rfl
  | f + 1, n, k, m, h => by
    show (if n = 0 then m else mp (f + 1) (n / 4) (k + 3) (max m (ds 16 (n - 1) + k))) = (if n = 0 then m else mp f (n / 4) (k + 3) (max m (ds 16 (n - 1) + k)))
    rw [mp_fuel f (n / 4) (k + 3) _ (p4d h)]
theorem p4_mono {a b : Nat} (h : a ≤ b) : 4 ^ a ≤ 4 ^ b := Nat.pow_le_pow_right (by omega) h
theorem mp_fuels {f n k m : Nat} (h : n < 4 ^ f) : ∀ j, mp (f + j) n k m = mp f n k m
  | 0 => rfl
  | j + 1 => by
    rw [← Nat.add_assoc, mp_fuel (f + j) n k m (Nat.lt_of_lt_of_le h (p4_mono (by omega)))]
    exact mp_fuels h j
theorem mp_same {f g n k m : Nat} (hf : n < 4 ^ f) (hg : n < 4 ^ g) : mp f n k m = mp g n k m := by
  rw [← mp_fuels hf g, ← mp_fuels hg f, Nat.add_comm]
