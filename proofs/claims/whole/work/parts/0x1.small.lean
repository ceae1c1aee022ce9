/-! Small flocks: the object counts to the base n + 1, the reference passes over numbers with greater digits -/
def flF (g : Nat → Int32) (v : Int32) (k : Nat) : Nat → Int32 := fun j => if j < k then v else g j
theorem flF_step {g : Nat → Int32} {v : Int32} {k : Nat} : ∀ j, flF g v (k + 1) j = if j = k then v else flF g v k j := fun j => by
  unfold flF
  by_cases h1 : j = k
  · rw [if_pos (by omega), if_pos h1]
  · rw [if_neg h1]
    by_cases h2 : j < k
    · rw [if_pos (by omega), if_pos h2]
    · rw [if_neg (by omega), if_neg h2]
theorem w_JA_fill_5 {o N : Nat} {v : Int32} (hN : N < 100000) : ∀ (f k : Nat) {S S1 : ZSt} {Q : ZOut → ZSt → Prop}, zSh S → zArr S o N → f + k = N → zCp o S S1 (flF (zI S o) v k) → (∀ S', zCp o S S' (flF (zI S o) v N) → Q (.inl none) S') → zW 1 m_JA_fill 5 [some (.ref o), some (.int v), some (.int (nI k)), some (.int (nI N))] [] S1 Q
  | 0, k, S, S1, Q, hS, ha, hk, hc, h => by
    obtain rfl : k = N := by omega
    exact b_JA_fill_5 (zSh_of hc.1 hS) ⟨fun _ => h S1 hc, fun h9 => absurd (nI_le (Nat.le_refl _) (by omega)) h9⟩
  | f + 1, k, S, S1, Q, hS, ha, hk, hc, h => by
    refine b_JA_fill_5 (zSh_of hc.1 hS) ⟨fun h9 => absurd h9 (nI_ge (by omega) (by omega)), fun _ => ?_⟩
    have e1 : zc S1 o = 100 := by
      show S1.2.2.2.2.1 o = 100
      rw [hc.1]
      exact ha.1
    have e2 : zn S1 o = N := by
      show S1.2.2.2.1 o = N
      rw [hc.1]
      exact ha.2
    rw [nI_add, zcl9 (by omega), e2]
    exact ⟨e1, zin (by omega) (by omega), w_JA_fill_5 hN f (k + 1) hS ha (by omega) (hc.step flF_step) h⟩
theorem w_JA_fill {o N : Nat} {v : Int32} {S : ZSt} {Q : ZOut → ZSt → Prop} (hS : zSh S) (ha : zArr S o N) (hN : N < 100000) (h : ∀ S', zJ [o] S S' → (∀ j, j < N → zI S' o j = v) → Q (.inl none) S') : zC m_JA_fill [.ref o, .int v] S Q := by
  refine b_JA_fill hS ⟨ha.1, ?_⟩
  rw [ha.2]
  refine w_JA_fill_5 hN N 0 hS ha (by omega) (zCp.start (fun j => ?_)) (fun S' hc => h S' hc.J (fun j hj => ?_))
  · unfold flF
    rw [if_neg (by omega)]
  · rw [hc.2.2]
    unfold flF
    rw [if_pos hj]
/-- a digit of a number -/
def dgt (b m i j : Nat) : Nat := if j < m then i / b ^ (m - 1 - j) % b else 0
def z0 : Nat → Nat := fun _ => 0
theorem dgt_le {b m i j : Nat} (hb : 1 ≤ b ∧ b ≤ 10) : dgt b m i j ≤ 9 := by
  unfold dgt
  split
  · have := Nat.mod_lt (i / b ^ (m - 1 - j)) (show b > 0 by omega)
    omega
  · omega
theorem dgt_out {b m i j : Nat} (h : m ≤ j) : dgt b m i j = 0 := by
  unfold dgt
  rw [if_neg (by omega)]
theorem ddiv {b i a : Nat} : i / b ^ a / b = i / b ^ (a + 1) := by
  rw [Nat.div_div_eq_div_mul, Nat.pow_succ]
theorem z0_N {S : ZSt} {c n B : Nat} (h : ∀ j, j < n → zI S c j = nI 0) : jN (zI S c) n B z0 := fun j hj => ⟨h j hj, Nat.zero_le _⟩
theorem zrem {a d : Nat} (ha : a < 2 ^ 31) (h0 : 0 < d) (hd : d < 2 ^ 31) : zRem (nI a) (nI d) = nI (a % d) := pk_rem ha h0 hd
theorem w_Ru_begin {h p : Nat → Nat} {S : ZSt} {Q : ZOut → ZSt → Prop} (hS : zSh S) (hH : jN (zI S 107) 12 1000000000 h) (hP : jN (zI S 109) 24 3 p) (hQ : ∀ S', zJ [106, 108] S S' → jR S' (h, p, 0, 0, 3, 9) → Q (.inl none) S') : zC m_Ru_begin [.ref 106] S Q := by
  refine b_Ru_begin hS ?_
  obtain ⟨c107, n107⟩ := zA_of hS (c := 107) (n := 12) rfl
  obtain ⟨c108, n108⟩ := zA_of hS (c := 108) (n := 12) rfl
  rw [cl0, cl12]
  refine ⟨c107, c108, by decide, by decide, by decide, (by show 0 + 12 ≤ zn S 107; rw [n107]; decide), (by show 0 + 12 ≤ zn S 108; rw [n108]; decide), hQ _ (((((zJ.rf.W rfl).I rfl).I rfl).I rfl).I rfl) ⟨fun j hj => ?_, hP, ?_, ?_, ?_, ?_⟩⟩
  · show va_cpy (zI S 107) (zI S 108) 0 0 12 j = _ ∧ _
    rw [pk_cpy_in (by omega) (by omega), show 0 + (j - 0) = j by omega]
    exact hH j hj
  · rw [zI_o (by omega), zI_o (by omega), zI_o (by omega), zI_s]
  · rw [zI_o (by omega), zI_o (by omega), zI_s]
  · rw [zI_o (by omega), zI_s]
  · rw [zI_s]
theorem w_Ru_sS_22 {b m i : Nat} (hb : 1 ≤ b ∧ b ≤ 10) (hm : m ≤ 12) (hi : i < 2 ^ 31) {x1 x2 x3 : Int32} : ∀ (k : Nat) {S : ZSt} {Q : ZOut → ZSt → Prop}, zSh S → k ≤ m → (∀ j, j < 12 → zI S 107 j = nI (if k ≤ j then dgt b m i j else 0)) → jN (zI S 109) 24 3 z0 → (∀ S', zJ [106, 107, 108, 109] S S' → jN (zI S' 107) 12 1000000000 (dgt b m i) → jR S' (dgt b m i, z0, 0, 0, 3, 9) → Q (.inl none) S') → zW 2 m_Ru_startSmall 22 [some (.ref 106), some (.int x1), some (.int x2), some (.int x3), some (.int (nI b)), some (.int (nI (i / b ^ (m - k)))), some (.int (nI k - nI 1))] [] S Q
  | 0, S, Q, hS, hk, h7, h9, hQ => by
    have hN : jN (zI S 107) 12 1000000000 (dgt b m i) := fun j hj => ⟨by rw [h7 j hj, if_pos (by omega)], by have := dgt_le (m := m) (i := i) (j := j) hb; omega⟩
    refine b_Ru_startSmall_22 hS ⟨fun _ => w_Ru_begin hS hN h9 (fun S1 j1 r1 => b_Ru_startSmall_39 (j1.sh hS) (hQ S1 (zJ3 j1 (zsub_of rfl)) (by rw [j1.2 107 rfl]; exact hN) r1)), fun h8 => absurd (by decide) h8⟩
  | k + 1, S, Q, hS, hk, h7, h9, hQ => by
    have hq : i / b ^ (m - (k + 1)) < 2 ^ 31 := Nat.lt_of_le_of_lt (Nat.div_le_self _ _) hi
    rw [zsub1 (by omega), show k + 1 - 1 = k by omega]
    refine b_Ru_startSmall_22 hS ⟨fun h8 => absurd h8 (nI_pos (by omega)), fun _ => ⟨nI_ne0 (by omega) (by omega), zin (by omega) (by omega), nI_ne0 (by omega) (by omega), ?_⟩⟩
    rw [zrem hq (by omega) (by omega), pk_div hq (by omega) (by omega), ddiv, zcl9 (by omega), ← Int32.sub_eq_add_neg, show m - (k + 1) + 1 = m - k by omega]
    have j : zJ [106, 107, 108, 109] S (zsI S 107 k (nI (i / b ^ (m - (k + 1)) % b))) := zJ.rf.I rfl
    refine w_Ru_sS_22 hb hm hi k hS (by omega) (fun j hj => ?_) h9 (fun S' j' => hQ S' (j.tr j'))
    rw [zI_eq, zupd]
    by_cases e : j = k
    · rw [if_pos e, if_pos (by omega), e]
      unfold dgt
      rw [if_pos (by omega), show m - 1 - k = m - (k + 1) by omega]
    · rw [if_neg e, h7 j hj]
      by_cases e2 : k ≤ j
      · rw [if_pos e2, if_pos (by omega)]
      · rw [if_neg e2, if_neg (by omega)]
theorem w_Ru_startSmall {i m n : Nat} (hm : 1 ≤ m ∧ m ≤ 12) (hn : n ≤ 9) (hi : i < 2 ^ 31) {S : ZSt} {Q : ZOut → ZSt → Prop} (hS : zSh S) (hQ : ∀ S', zJ [106, 107, 108, 109] S S' → jN (zI S' 107) 12 1000000000 (dgt (n + 1) m i) → jR S' (dgt (n + 1) m i, z0, 0, 0, 3, 9) → Q (.inl none) S') : zC m_Ru_startSmall [.ref 106, .int (nI i), .int (nI m), .int (nI n)] S Q := by
  refine b_Ru_startSmall hS (w_JA_fill hS (zA_of hS (c := 107) (n := 12) rfl) (by omega) (fun S1 j1 f1 => b_Ru_startSmall_4 (j1.sh hS) ?_))
  have hS1 := j1.sh hS
  refine w_JA_fill hS1 (zA_of hS1 (c := 109) (n := 24) rfl) (by omega) (fun S2 j2 f2 => b_Ru_startSmall_8 (j2.sh hS1) ?_)
  have hS2 := j2.sh hS1
  have j12 : zJ [106, 107, 108, 109] S S2 := (zJ3 j1 (zsub_of rfl)).tr (zJ3 j2 (zsub_of rfl))
  have eb : (if nI 1 < nI n + nI 1 then nI n + nI 1 else nI 1) = nI (n + 1) := by
    rw [nI_add]
    by_cases h : n = 0
    · subst h
      rfl
    · rw [if_pos (nI_lt (by omega) (by omega))]
  have em : (if nI 12 < nI m then nI 12 else nI m) = nI m := if_neg (nI_nlt (by omega) (by omega))
  rw [eb, em]
  have e0 : nI i = nI (i / (n + 1) ^ (m - m)) := by
    rw [Nat.sub_self, Nat.pow_zero, Nat.div_one]
  have key := w_Ru_sS_22 (b := n + 1) (m := m) (i := i) (x1 := nI i) (x2 := nI m) (x3 := nI n) (by omega) hm.2 hi m (S := S2) (Q := Q) hS2 (Nat.le_refl _) (fun j hj => ?_) (z0_N f2) (fun S' j' => hQ S' (j12.tr j'))
  · rw [← e0] at key
    exact key
  · rw [j2.2 107 rfl, f1 j hj]
    split
    · rw [dgt_out (by assumption)]
    · rfl
theorem w_M_fN_31 {x1 x2 x3 : Int32} : ∀ (f k : Nat) {S S1 : ZSt} {Q : ZOut → ZSt → Prop}, zSh S → f + k = 24 → zCp 147 S S1 (flF (zI S 147) (nI 0) k) → (∀ S', zCp 147 S S' (flF (zI S 147) (nI 0) 24) → Q (.inl none) S') → zW 1 m_M_fromNumber 31 [some (.ref 130), some (.int x1), some (.int x2), some (.int x3), some (.int (nI k))] [] S1 Q
  | 0, k, S, S1, Q, hS, hk, hc, h => by
    obtain rfl : k = 24 := by omega
    exact b_M_fromNumber_31 (zSh_of hc.1 hS) ⟨fun _ => h S1 hc, fun h9 => absurd (nI_le (Nat.le_refl _) (by omega)) h9⟩
  | f + 1, k, S, S1, Q, hS, hk, hc, h => by
    refine b_M_fromNumber_31 (zSh_of hc.1 hS) ⟨fun h9 => absurd h9 (nI_ge (by omega) (by omega)), fun _ => ?_⟩
    rw [nI_add, zcl9 (by omega)]
    exact ⟨zin (by omega) (by omega), w_M_fN_31 f (k + 1) hS (by omega) (hc.step flF_step) h⟩
theorem w_M_fN_4 {m i : Nat} (hm : m ≤ 12) (hi : i < 2 ^ 31) : ∀ (k : Nat) {S : ZSt} {Q : ZOut → ZSt → Prop}, zSh S → k ≤ 12 → (∀ j, k ≤ j → j < 12 → zI S 145 j = nI (dgt 10 m i j)) → (∀ S' x, zJ [145] S S' → (∀ j, j < 12 → zI S' 145 j = nI (dgt 10 m i j)) → zW 1 m_M_fromNumber 31 [some (.ref 130), some (.int (nI m)), some (.int (nI i)), some (.int x), some (.int (nI 0))] [] S' Q) → zW 1 m_M_fromNumber 4 [some (.ref 130), some (.int (nI m)), some (.int (nI i)), some (.int (nI (i / 10 ^ (m - k)))), some (.int (nI k - nI 1))] [] S Q
  | 0, S, Q, hS, hk, h7, hQ => b_M_fromNumber_4 hS ⟨fun _ => hQ S _ zJ.rf (fun j hj => h7 j (by omega) hj), fun h8 => absurd (by decide) h8⟩
  | k + 1, S, Q, hS, hk, h7, hQ => by
    have hq : i / 10 ^ (m - (k + 1)) < 2 ^ 31 := Nat.lt_of_le_of_lt (Nat.div_le_self _ _) hi
    rw [zsub1 (by omega), show k + 1 - 1 = k by omega]
    refine b_M_fromNumber_4 hS ⟨fun h8 => absurd h8 (nI_pos (by omega)), fun _ => ⟨fun h8 => ?_, fun h8 => ?_⟩⟩
    · have hmk : m ≤ k := (nI_leI (by omega) (by omega)).mp h8
      refine ⟨zin (by omega) (by omega), fun _ => ?_, fun h6 => absurd h8 h6⟩
      rw [zcl9 (by omega), ← Int32.sub_eq_add_neg, show m - (k + 1) = m - k by omega]
      have j : zJ [145] S (zsI S 145 k (nI 0)) := zJ.rf.I rfl
      refine w_M_fN_4 hm hi k hS (by omega) (fun j h5 hj => ?_) (fun S' x j' => hQ S' x (j.tr j'))
      rw [zI_eq, zupd]
      by_cases e : j = k
      · rw [if_pos e, dgt_out (by omega)]
      · rw [if_neg e, h7 j (by omega) hj]
    · have hmk : k < m := Nat.not_le.mp (fun h6 => h8 (nI_le h6 (by omega)))
      refine ⟨by decide, zin (by omega) (by omega), fun h6 => absurd h6 h8, fun _ => ⟨by decide, ?_⟩⟩
      rw [zrem hq (by omega) (by omega), pk_div hq (by omega) (by omega), ddiv, zcl9 (by omega), ← Int32.sub_eq_add_neg, show m - (k + 1) + 1 = m - k by omega]
      have j : zJ [145] S (zsI S 145 k (nI (i / 10 ^ (m - (k + 1)) % 10))) := zJ.rf.I rfl
      refine w_M_fN_4 hm hi k hS (by omega) (fun j h5 hj => ?_) (fun S' x j' => hQ S' x (j.tr j'))
      rw [zI_eq, zupd]
      by_cases e : j = k
      · rw [if_pos e, e]
        unfold dgt
        rw [if_pos hmk, show m - 1 - k = m - (k + 1) by omega]
      · rw [if_neg e, h7 j (by omega) hj]
theorem w_M_fromNumber {i m : Nat} (hm : m ≤ 12) (hi : i < 2 ^ 31) {S : ZSt} {Q : ZOut → ZSt → Prop} (hS : zSh S) (hQ : ∀ S', zJ [145, 147] S S' → jN (zI S' 145) 12 1000000000 (dgt 10 m i) → jN (zI S' 147) 24 3 z0 → Q (.inl none) S') : zC m_M_fromNumber [.ref 130, .int (nI m), .int (nI i)] S Q := by
  have key := w_M_fN_4 (m := m) (i := i) hm hi 12 (S := S) (Q := Q) hS (Nat.le_refl _) (fun j h1 h2 => by omega) (fun S1 x j1 f1 => ?_)
  · rw [show m - 12 = 0 by omega, Nat.pow_zero, Nat.div_one] at key
    exact b_M_fromNumber hS key
  · have hS1 := j1.sh hS
    refine w_M_fN_31 24 0 hS1 (by omega) (zCp.start (fun j => ?_)) (fun S2 c2 => hQ S2 ((zJ3 j1 (zsub_of rfl)).tr (zJ3 c2.J (zsub_of rfl))) (fun j hj => ?_) (z0_N (fun j hj => ?_)))
    · unfold flF
      rw [if_neg (by omega)]
    · rw [c2.2.1 145 (by omega), f1 j hj]
      exact ⟨rfl, by have := dgt_le (b := 10) (m := m) (i := i) (j := j) (by omega); omega⟩
    · rw [c2.2.2]
      unfold flF
      rw [if_pos hj]
/-! the numbers in their order -/
def okf (n : Nat) : Nat → Nat → Bool
  | 0, _ => true
  | k + 1, r => if r = 0 then true else (decide (r % 10 ≤ n) && okf n k (r / 10))
def dcp (b m i : Nat) : Nat → Nat
  | 0 => 0
  | h + 1 => 10 * dcp b m i h + dgt b m i h
def chkF : Bool := (List.range 3).all fun m' => (List.range 10).all fun n => decide ((List.range' 0 (10 ^ (m' + 1))).filter (okf n 3) = (List.range' 0 ((n + 1) ^ (m' + 1))).map (fun i => dcp (n + 1) (m' + 1) i (m' + 1))) && (List.range' 0 ((n + 1) ^ (m' + 1))).all fun i => (List.range (m' + 1)).all fun h => Nat.beq (dgt 10 (m' + 1) (dcp (n + 1) (m' + 1) i (m' + 1)) h) (dgt (n + 1) (m' + 1) i h)
theorem chkF_t : chkF = true := by decide +kernel
theorem chkF_at {m n : Nat} (hm : 1 ≤ m ∧ m ≤ 3) (hn : n ≤ 9) : (List.range' 0 (10 ^ m)).filter (okf n 3) = (List.range' 0 ((n + 1) ^ m)).map (fun i => dcp (n + 1) m i m) ∧ ∀ i, i < (n + 1) ^ m → ∀ h, h < m → dgt 10 m (dcp (n + 1) m i m) h = dgt (n + 1) m i h := by
  have h0 := chkF_t
  unfold chkF at h0
  rw [List.all_eq_true] at h0
  have h1 := h0 (m - 1) (List.mem_range.mpr (by omega))
  rw [List.all_eq_true] at h1
  have h2 := h1 n (List.mem_range.mpr (by omega))
  rw [show m - 1 + 1 = m by omega] at h2
  obtain ⟨h3, h4⟩ := zand h2
  refine ⟨of_decide_eq_true h3, fun i hi h hh => ?_⟩
  rw [List.all_eq_true] at h4
  have h5 := h4 i (List.mem_range'_1.mpr (by omega))
  rw [List.all_eq_true] at h5
  exact Nat.eq_of_beq_eq_true (h5 h (List.mem_range.mpr hh))
theorem dgt_same {m n i : Nat} (hm : 1 ≤ m ∧ m ≤ 3) (hn : n ≤ 9) (hi : i < (n + 1) ^ m) : dgt (n + 1) m i = dgt 10 m (dcp (n + 1) m i m) := by
  funext j
  by_cases hj : j < m
  · exact ((chkF_at hm hn).2 i hi j hj).symm
  · rw [dgt_out (by omega), dgt_out (by omega)]
theorem pow_b {m n : Nat} (hm : m ≤ 3) (hn : n ≤ 9) : (n + 1) ^ m ≤ 1000 := by
  have h1 : (n + 1) ^ m ≤ 10 ^ m := Nat.pow_le_pow_left (by omega) m
  have h2 : 10 ^ m ≤ 10 ^ 3 := Nat.pow_le_pow_right (by omega) hm
  omega
theorem w_N_flocksWithin_4 {m n : Nat} (hm : m ≤ 3) (hn : n ≤ 9) : ∀ (f k : Nat) {S : ZSt} {Q : ZOut → ZSt → Prop}, zSh S → f + k = m → Q (.inl (some (.int (nI ((n + 1) ^ m))))) S → zW 1 m_N_flocksWithin 4 [some (.int (nI m)), some (.int (nI n)), some (.int (nI ((n + 1) ^ k))), some (.int (nI k))] [] S Q
  | 0, k, S, Q, hS, hk, h => by
    obtain rfl : k = m := by omega
    exact b_N_flocksWithin_4 hS ⟨fun _ => h, fun h9 => absurd (nI_le (Nat.le_refl _) (by omega)) h9⟩
  | f + 1, k, S, Q, hS, hk, h => by
    refine b_N_flocksWithin_4 hS ⟨fun h9 => absurd h9 (nI_ge (by omega) (by omega)), fun _ => ?_⟩
    rw [nI_add, nI_add, pk_mul, ← Nat.pow_succ]
    exact w_N_flocksWithin_4 hm hn f (k + 1) hS (by omega) h
theorem w_N_flocksWithin {m n : Nat} (hm : m ≤ 3) (hn : n ≤ 9) {S : ZSt} {Q : ZOut → ZSt → Prop} (hS : zSh S) (h : Q (.inl (some (.int (nI ((n + 1) ^ m))))) S) : zC m_N_flocksWithin [.int (nI m), .int (nI n)] S Q := b_N_flocksWithin hS (w_N_flocksWithin_4 hm hn m 0 hS (by omega) h)
theorem dcp_le {b m i : Nat} (hb : 1 ≤ b ∧ b ≤ 10) : ∀ h, dcp b m i h < 10 ^ h
  | 0 => by show 0 < 1; omega
  | h + 1 => by
    have h1 := dcp_le (m := m) (i := i) hb h
    have h2 := dgt_le (m := m) (i := i) (j := h) hb
    show 10 * dcp b m i h + dgt b m i h < 10 ^ (h + 1)
    rw [Nat.pow_succ]
    omega
theorem w_Ru_flockNumber_4 {b m i : Nat} (hb : 1 ≤ b ∧ b ≤ 10) (hm : m ≤ 3) : ∀ (f k : Nat) {S : ZSt} {Q : ZOut → ZSt → Prop}, zSh S → f + k = m → jN (zI S 107) 12 1000000000 (dgt b m i) → Q (.inl (some (.int (nI (dcp b m i m))))) S → zW 1 m_Ru_flockNumber 4 [some (.ref 106), some (.int (nI m)), some (.int (nI (dcp b m i k))), some (.int (nI k))] [] S Q
  | 0, k, S, Q, hS, hk, hw, h => by
    obtain rfl : k = m := by omega
    exact b_Ru_flockNumber_4 hS ⟨fun _ => h, fun h9 => absurd (nI_le (Nat.le_refl _) (by omega)) h9⟩
  | f + 1, k, S, Q, hS, hk, hw, h => by
    refine b_Ru_flockNumber_4 hS ⟨fun h9 => absurd h9 (nI_ge (by omega) (by omega)), fun _ => ⟨fun h9 => absurd h9 (nI_ge (by omega) (by omega)), fun _ => ⟨zin (by omega) (by omega), ?_⟩⟩⟩
    rw [nI_add, zcl9 (by omega), (hw k (by omega)).1, pk_mul, nI_add]
    exact w_Ru_flockNumber_4 hb hm f (k + 1) hS (by omega) hw h
theorem w_Ru_flockNumber {b m i : Nat} (hb : 1 ≤ b ∧ b ≤ 10) (hm : m ≤ 3) {S : ZSt} {Q : ZOut → ZSt → Prop} (hS : zSh S) (hw : jN (zI S 107) 12 1000000000 (dgt b m i)) (h : Q (.inl (some (.int (nI (dcp b m i m))))) S) : zC m_Ru_flockNumber [.ref 106, .int (nI m)] S Q := b_Ru_flockNumber hS (w_Ru_flockNumber_4 hb hm m 0 hS (by omega) hw h)
