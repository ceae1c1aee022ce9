/-! States of mind that say a row of words -/
theorem zs63 : ∀ n, n < 62 → (((nI n).toInt64 &&& 63).toBitVec.smod 64).toNat = n := by decide +kernel
theorem zu63 : ∀ n, n < 62 → (((nI n).toInt64.toUInt64 &&& Int64.toUInt64 63).toBitVec % 64).toNat = n := by decide +kernel
theorem zb3 : ∀ i, i < 64 → (lN 3).toBitVec.getLsbD i = decide (i < 2) := by decide +kernel
def wd (x : Int64) (i : Nat) : Int64 := zShrL x (nI (2 * i)) &&& lN 3
theorem wd_u {x : Int64} {i : Nat} (h : i < 31) : zUshrL x (nI (2 * i)) &&& lN 3 = wd x i := by
  apply Int64.toBitVec_inj.mp
  apply BitVec.eq_of_getLsbD_eq
  intro j hj
  unfold wd zShrL zUshrL
  rw [Int64.toBitVec_and, Int64.toBitVec_and, BitVec.getLsbD_and, BitVec.getLsbD_and, zb3 j hj]
  by_cases h2 : j < 2
  · have e1 : ((x.toUInt64 >>> ((nI (2 * i)).toInt64.toUInt64 &&& Int64.toUInt64 63)).toInt64).toBitVec.getLsbD j = x.toBitVec.getLsbD (2 * i + j) := by
      show (x.toUInt64 >>> ((nI (2 * i)).toInt64.toUInt64 &&& Int64.toUInt64 63)).toBitVec.getLsbD j = x.toUInt64.toBitVec.getLsbD (2 * i + j)
      rw [UInt64.toBitVec_shiftRight]
      show (x.toUInt64.toBitVec >>> (((nI (2 * i)).toInt64.toUInt64 &&& Int64.toUInt64 63).toBitVec % 64).toNat).getLsbD j = _
      rw [zu63 (2 * i) (by omega), BitVec.getLsbD_ushiftRight]
    have e2 : (x >>> ((nI (2 * i)).toInt64 &&& 63)).toBitVec.getLsbD j = x.toBitVec.getLsbD (2 * i + j) := by
      rw [Int64.toBitVec_shiftRight]
      show (x.toBitVec.sshiftRight (((nI (2 * i)).toInt64 &&& 63).toBitVec.smod 64).toNat).getLsbD j = _
      rw [zs63 (2 * i) (by omega), BitVec.getLsbD_sshiftRight, if_pos (by omega)]
      simp only [Bool.and_eq_right_iff_imp, Bool.not_eq_true', decide_eq_false_iff_not]
      intro _
      omega
    rw [e1, e2]
  · rw [decide_eq_false h2, Bool.and_false, Bool.and_false]
theorem lg_eq0 {x y : Int64} : lg_cmp x y = 0 ↔ x = y := by
  unfold lg_cmp
  split
  · rename_i h
    refine ⟨fun h9 => absurd h9 (by decide), fun h9 => ?_⟩
    subst h9
    exact absurd h (by simp)
  · split
    · rename_i h
      exact ⟨fun _ => h, fun _ => rfl⟩
    · rename_i h
      exact ⟨fun h9 => absurd h9 (by decide), fun h9 => absurd h9 h⟩
/-- from i on, for f words, each is as the one l behind it -/
def cm : Nat → Int64 → Nat → Nat → Bool
  | 0, _, _, _ => true
  | f + 1, x, l, i => decide (wd x i = wd x (i + l)) && cm f x l (i + 1)
def ch (w a t l : Int32) : Int32 := if w = 0 then a else if w = nI 1 then t else l
theorem zch {w a t l : Int32} {Q : Int32 → Prop} (h : Q (ch w a t l)) : (¬ w = 0 → (¬ w = nI 1 → Q l) ∧ (¬ (¬ w = nI 1) → Q t)) ∧ (¬ (¬ w = 0) → Q a) := by
  unfold ch at h
  refine ⟨fun h0 => ⟨fun h1 => ?_, fun h1 => ?_⟩, fun h0 => ?_⟩
  · rw [if_neg h0, if_neg h1] at h
    exact h
  · rw [if_neg h0, if_pos (Classical.not_not.mp h1)] at h
    exact h
  · rw [if_pos (Classical.not_not.mp h0)] at h
    exact h
def fT (x : Int64) (many few : Nat) (w : Int32) : Nat → Nat → Option Int32
  | 0, _ => none
  | f + 1, t => if cm (many - few) x (few - t) t = true then some (ch w (nI few) (nI t) (nI (few - t))) else fT x many few w f (t + 1)
def fA (x : Int64) (many : Nat) (w : Int32) : Nat → Nat → Int32
  | 0, _ => - nI 1
  | f + 1, few => match fT x many few w few 0 with
    | some r => r
    | none => fA x many w f (few + 1)
theorem w_Re_comesAgain_2 : ∀ (f i l many t : Nat) {x : Int64} {S : ZSt} {Q : ZOut → ZSt → Prop}, zSh S → many ≤ 30 → i ≤ 30 → l ≤ 30 → f = many - (i + l) → Q (.inl (some (.int (if cm f x l i = true then nI 1 else nI 0)))) S →
    zW 1 m_Re_comesAgain 2 [some (.long x), none, some (.int (nI many)), some (.int (nI t)), some (.int (nI l)), some (.int (nI i))] [] S Q
  | 0, i, l, many, t, x, S, Q, hS, hm, hi, hl, hf, h => by
    refine b_Re_comesAgain_2 hS (pk_le many (i + l) (fun _ => ⟨rfl, h⟩) (fun h9 => by omega) rfl (by rw [nI_add]))
  | f + 1, i, l, many, t, x, S, Q, hS, hm, hi, hl, hf, h => by
    refine b_Re_comesAgain_2 hS (pk_le many (i + l) (fun h9 => by omega) (fun h9 => ?_) rfl (by rw [nI_add]))
    rw [nI_add, pk_mul, pk_mul, wd_u (by omega), wd_u (by omega), lg_eq0, nI_add]
    refine ⟨fun h8 => w_Re_comesAgain_2 f (i + 1) l many t hS hm (by omega) hl (by omega) ?_, fun h8 => ⟨rfl, ?_⟩⟩
    · rw [cm, decide_eq_true h8, Bool.true_and] at h
      exact h
    · rw [cm, decide_eq_false h8, Bool.false_and, if_neg (by decide)] at h
      exact h
theorem w_Re_fewStates_7 : ∀ (f t few many : Nat) {w : Int32} {x : Int64} {S : ZSt} {Q : ZOut → ZSt → Prop}, zSh S → many ≤ 30 → few ≤ many → f = few - t → t ≤ few → (∀ r, fT x many few w f t = some r → Q (.inl (some (.int r))) S) →
    (fT x many few w f t = none → ∀ u5, zW 2 m_Re_fewStates 2 [some (.long x), none, some (.int (nI many)), some (.int w), some (.int (nI (few + 1))), u5] [] S Q) →
    zW 2 m_Re_fewStates 7 [some (.long x), none, some (.int (nI many)), some (.int w), some (.int (nI few)), some (.int (nI t))] [] S Q
  | 0, t, few, many, w, x, S, Q, hS, hm, hfm, hf, ht, h1, h2 => by
    refine b_Re_fewStates_7 hS (pk_le few t (fun _ => ?_) (fun h9 => by omega))
    rw [nI_add]
    exact h2 rfl _
  | f + 1, t, few, many, w, x, S, Q, hS, hm, hfm, hf, ht, h1, h2 => by
    refine b_Re_fewStates_7 hS (pk_le few t (fun h9 => by omega) (fun h9 => ?_))
    rw [pk_sub (by omega)]
    refine b_Re_comesAgain hS (w_Re_comesAgain_2 (many - few) t (few - t) many t hS hm (by omega) (by omega) (by omega) ?_)
    refine b_Re_fewStates_17 hS ?_
    unfold fT at h1 h2
    by_cases hc : cm (many - few) x (few - t) t = true
    · rw [if_pos hc] at h1 ⊢
      refine ⟨fun h9 => absurd h9 (by decide), fun _ => ?_⟩
      rw [pk_sub (by omega)]
      exact zch (Q := fun r => Q (.inl (some (.int r))) S) (h1 _ rfl)
    · rw [if_neg hc] at h1 h2 ⊢
      refine ⟨fun _ => ?_, fun h9 => absurd (by decide) h9⟩
      rw [nI_add]
      exact w_Re_fewStates_7 f (t + 1) few many hS hm hfm (by omega) (by omega) h1 h2
theorem w_Re_fewStates_2 : ∀ (f few many : Nat) {u5 : Option Value} {w : Int32} {x : Int64} {S : ZSt} {Q : ZOut → ZSt → Prop}, zSh S → many ≤ 30 → f = many + 1 - few → few ≤ many + 1 → Q (.inl (some (.int (fA x many w f few)))) S →
    zW 2 m_Re_fewStates 2 [some (.long x), none, some (.int (nI many)), some (.int w), some (.int (nI few)), u5] [] S Q
  | 0, few, many, u5, w, x, S, Q, hS, hm, hf, hfe, h => by
    exact b_Re_fewStates_2 hS (pk_lt many few (fun _ => h) (fun h9 => by omega))
  | f + 1, few, many, u5, w, x, S, Q, hS, hm, hf, hfe, h => by
    refine b_Re_fewStates_2 hS (pk_lt many few (fun h9 => by omega) (fun h9 => ?_))
    unfold fA at h
    refine w_Re_fewStates_7 few 0 few many hS hm h9 (by omega) (by omega) (fun r hr => ?_) (fun hr u => ?_)
    · rw [hr] at h
      exact h
    · rw [hr] at h
      exact w_Re_fewStates_2 f (few + 1) many hS hm (by omega) (by omega) h
def fMind (x : Int64) (many w : Int32) : Int32 := fA x many.toNatClampNeg w many.toNatClampNeg 1
theorem w_Re_fewStates {x : Int64} {m w : Int32} {S : ZSt} {Q : ZOut → ZSt → Prop} (hS : zSh S) (hm : 1 ≤ m.toInt ∧ m.toInt ≤ 30) (h : Q (.inl (some (.int (fMind x m w)))) S) : zC m_Re_fewStates [.long x, .int m, .int w] S Q := by
  obtain ⟨k, hk, rfl⟩ : ∃ k : Nat, k < 2 ^ 31 ∧ m = nI k := ⟨m.toInt.toNat, by omega, zofN (by omega)⟩
  rw [nI_toInt hk] at hm
  unfold fMind at h
  rw [zcl9 hk] at h
  exact b_Re_fewStates hS (w_Re_fewStates_2 k 1 k hS (by omega) (by omega) (by omega) h)
/-! the reference -/
theorem w_M_mind_41 : ∀ (f i l t few many : Nat) (b : Bool) {w : Int32} {x : Int64} {S : ZSt} {Q : ZOut → ZSt → Prop}, zSh S → many ≤ 30 → i ≤ 30 → l ≤ 30 → f = many - (i + l) →
    ((b && cm f x l i) = true → Q (.inl (some (.int (ch w (nI few) (nI t) (nI l))))) S) → ((b && cm f x l i) = false → ∀ u7 u8 u9, zW 2 m_M_mind 30 [some (.ref 130), some (.long x), none, some (.int (nI many)), some (.int w), some (.int (nI few)), some (.int (nI (t + 1))), u7, u8, u9] [] S Q) →
    zW 2 m_M_mind 41 [some (.ref 130), some (.long x), none, some (.int (nI many)), some (.int w), some (.int (nI few)), some (.int (nI t)), some (.int (nI l)), some (.int (if b = true then nI 1 else nI 0)), some (.int (nI i))] [] S Q
  | 0, i, l, t, few, many, b, w, x, S, Q, hS, hm, hi, hl, hf, h1, h2 => by
    refine b_M_mind_41 hS (pk_le many (i + l) (fun _ => ?_) (fun h9 => by omega) rfl (by rw [nI_add]))
    rw [cm, Bool.and_true] at h1 h2
    cases b with
    | true => exact ⟨fun h9 => absurd h9 (by decide), fun _ => zch (Q := fun r => Q (.inl (some (.int r))) S) (h1 rfl)⟩
    | false =>
      refine ⟨fun _ => ?_, fun h9 => absurd (by decide) h9⟩
      rw [nI_add]
      exact h2 rfl _ _ _
  | f + 1, i, l, t, few, many, b, w, x, S, Q, hS, hm, hi, hl, hf, h1, h2 => by
    refine b_M_mind_41 hS (pk_le many (i + l) (fun h9 => by omega) (fun h9 => ?_) rfl (by rw [nI_add]))
    rw [nI_add i l, nI_add i 1, pk_mul, pk_mul, show zShrL x (nI (2 * i)) &&& lN 3 = wd x i from rfl, show zShrL x (nI (2 * (i + l))) &&& lN 3 = wd x (i + l) from rfl, lg_eq0]
    have go : ∀ b' : Bool, (b' && cm f x l (i + 1)) = (b && cm (f + 1) x l i) → zW 2 m_M_mind 41 [some (.ref 130), some (.long x), none, some (.int (nI many)), some (.int w), some (.int (nI few)), some (.int (nI t)), some (.int (nI l)), some (.int (if b' = true then nI 1 else nI 0)), some (.int (nI (i + 1)))] [] S Q := fun b' e =>
      w_M_mind_41 f (i + 1) l t few many b' hS hm (by omega) hl (by omega) (by rw [e]; exact h1) (by rw [e]; exact h2)
    cases b with
    | false => exact ⟨fun _ => go false rfl, fun h9 => absurd (by decide) h9⟩
    | true =>
      refine ⟨fun h9 => absurd h9 (by decide), fun _ => ⟨fun h8 => go false ?_, fun h8 => go true ?_⟩⟩
      · rw [cm, decide_eq_false h8]
        rfl
      · rw [cm, decide_eq_true (Classical.not_not.mp h8)]
        rfl
theorem w_M_mind_30 : ∀ (f t few many : Nat) {u7 u8 u9 : Option Value} {w : Int32} {x : Int64} {S : ZSt} {Q : ZOut → ZSt → Prop}, zSh S → many ≤ 30 → few ≤ many → f = few - t → t ≤ few → (∀ r, fT x many few w f t = some r → Q (.inl (some (.int r))) S) →
    (fT x many few w f t = none → ∀ u6 u7 u8 u9, zW 2 m_M_mind 25 [some (.ref 130), some (.long x), none, some (.int (nI many)), some (.int w), some (.int (nI (few + 1))), u6, u7, u8, u9] [] S Q) →
    zW 2 m_M_mind 30 [some (.ref 130), some (.long x), none, some (.int (nI many)), some (.int w), some (.int (nI few)), some (.int (nI t)), u7, u8, u9] [] S Q
  | 0, t, few, many, u7, u8, u9, w, x, S, Q, hS, hm, hfm, hf, ht, h1, h2 => by
    refine b_M_mind_30 hS (pk_le few t (fun _ => ?_) (fun h9 => by omega))
    rw [nI_add]
    exact h2 rfl _ _ _ _
  | f + 1, t, few, many, u7, u8, u9, w, x, S, Q, hS, hm, hfm, hf, ht, h1, h2 => by
    refine b_M_mind_30 hS (pk_le few t (fun h9 => by omega) (fun h9 => ?_))
    rw [pk_sub (by omega)]
    unfold fT at h1 h2
    refine w_M_mind_41 (many - few) t (few - t) t few many true hS hm (by omega) (by omega) (by omega) (fun hc => ?_) (fun hc v7 v8 v9 => ?_)
    · rw [Bool.true_and] at hc
      rw [if_pos hc] at h1
      exact h1 _ rfl
    · rw [Bool.true_and] at hc
      rw [if_neg (by rw [hc]; decide)] at h1 h2
      exact w_M_mind_30 f (t + 1) few many hS hm hfm (by omega) (by omega) h1 h2
theorem w_M_mind_25 : ∀ (f few many : Nat) {u6 u7 u8 u9 : Option Value} {w : Int32} {x : Int64} {S : ZSt} {Q : ZOut → ZSt → Prop}, zSh S → many ≤ 30 → f = many + 1 - few → few ≤ many + 1 → Q (.inl (some (.int (fA x many w f few)))) S →
    zW 2 m_M_mind 25 [some (.ref 130), some (.long x), none, some (.int (nI many)), some (.int w), some (.int (nI few)), u6, u7, u8, u9] [] S Q
  | 0, few, many, u6, u7, u8, u9, w, x, S, Q, hS, hm, hf, hfe, h => by
    exact b_M_mind_25 hS (pk_lt many few (fun _ => h) (fun h9 => by omega))
  | f + 1, few, many, u6, u7, u8, u9, w, x, S, Q, hS, hm, hf, hfe, h => by
    refine b_M_mind_25 hS (pk_lt many few (fun h9 => by omega) (fun h9 => ?_))
    unfold fA at h
    refine w_M_mind_30 few 0 few many hS hm h9 (by omega) (by omega) (fun r hr => ?_) (fun hr v6 v7 v8 v9 => ?_)
    · rw [hr] at h
      exact h
    · rw [hr] at h
      exact w_M_mind_25 f (few + 1) many hS hm (by omega) (by omega) h
