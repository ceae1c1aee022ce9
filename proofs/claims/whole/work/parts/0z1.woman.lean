/-! The old woman: numbers by what they leave -/
def stB (c : Nat → Int32) (x b : Nat) : Bool := decide (c b = - nI 1) || decide (nI (x % b) = c b)
def allF (P : Nat → Bool) : Nat → Nat → Bool
  | 0, _ => true
  | f + 1, k => P k && allF P f (k + 1)
theorem allF_iff {P : Nat → Bool} : ∀ (f k : Nat), allF P f k = true ↔ ∀ j, k ≤ j → j < k + f → P j = true
  | 0, k => ⟨fun _ j a b => by omega, fun _ => rfl⟩
  | f + 1, k => by
    show (P k && allF P f (k + 1)) = true ↔ _
    rw [Bool.and_eq_true, allF_iff f (k + 1)]
    constructor
    · intro ⟨h1, h2⟩ j a b
      by_cases e : j = k
      · rw [e]
        exact h1
      · exact h2 j (by omega) (by omega)
    · intro h
      exact ⟨h k (by omega) (by omega), fun j a b => h j (by omega) (by omega)⟩
def satB (c : Nat → Int32) (x : Nat) : Bool := allF (stB c x) 8 2
def rsB (c : Nat → Int32) : Prop := ∀ b, 2 ≤ b → b ≤ 9 → c b = - nI 1 ∨ ∃ n, n < b ∧ c b = nI n
theorem sat_iff {c : Nat → Int32} {x : Nat} : satB c x = true ↔ ∀ b, 2 ≤ b → b ≤ 9 → c b = - nI 1 ∨ nI (x % b) = c b := by
  unfold satB
  rw [allF_iff]
  constructor
  · intro h b h1 h2
    have := h b h1 (by omega)
    unfold stB at this
    rw [Bool.or_eq_true, decide_eq_true_eq, decide_eq_true_eq] at this
    exact this
  · intro h b h1 h2
    unfold stB
    rw [Bool.or_eq_true, decide_eq_true_eq, decide_eq_true_eq]
    exact h b h1 (by omega)
theorem stB_1 {c : Nat → Int32} {x b : Nat} (h : c b = - nI 1) : stB c x b = true := by
  unfold stB
  rw [decide_eq_true h]
  rfl
theorem stB_2 {c : Nat → Int32} {x b : Nat} (h : nI (x % b) = c b) : stB c x b = true := by
  unfold stB
  rw [decide_eq_true h, Bool.or_true]
theorem stB_0 {c : Nat → Int32} {x b : Nat} (h : ¬ c b = - nI 1) (h2 : ¬ nI (x % b) = c b) : stB c x b = false := by
  unfold stB
  rw [decide_eq_false h, decide_eq_false h2]
  rfl
theorem w_Re_lTL_12 {x : Nat} {c : Nat → Int32} {x1 : Int32} (hx : x < 2 ^ 31) {S : ZSt} {Q : ZOut → ZSt → Prop} (hS : zSh S) (hc : ∀ j, j < 10 → zI S 103 j = c j) : ∀ (f b : Nat) (fl : Bool), f + b = 10 → 2 ≤ b → ((fl && allF (stB c x) f b) = true → Q (.inl (some (.int (nI x)))) S) → ((fl && allF (stB c x) f b) = false → ∀ u3 u4, zW 1 m_Re_leastThatLeaves 2 [some (.ref 103), some (.int x1), some (.int (nI (x + 1))), u3, u4] [] S Q) → zW 1 m_Re_leastThatLeaves 12 [some (.ref 103), some (.int x1), some (.int (nI x)), some (.int (zBo fl)), some (.int (nI b))] [] S Q
  | 0, b, fl, hb, h2, h1, h0 => by
    refine b_Re_leastThatLeaves_12 hS ⟨fun _ => ?_, fun h9 => absurd (nI_lt (by omega) (by omega)) h9⟩
    rw [nI_add]
    rw [show (fl && allF (stB c x) 0 b) = fl from Bool.and_true fl] at h1 h0
    cases fl with
    | false => exact ⟨fun _ => h0 rfl _ _, fun h9 => absurd rfl h9⟩
    | true => exact ⟨fun h9 => absurd h9 (by decide), fun _ => h1 rfl⟩
  | f + 1, b, fl, hb, h2, h1, h0 => by
    refine b_Re_leastThatLeaves_12 hS ⟨fun h9 => absurd h9 (nI_nlt (by omega) (by omega)), fun _ => ?_⟩
    rw [nI_add, zcl9 (by omega), hc b (by omega), zrem hx (by omega) (by omega)]
    have e : (fl && allF (stB c x) (f + 1) b) = ((fl && stB c x b) && allF (stB c x) f (b + 1)) := by
      show (fl && (stB c x b && allF (stB c x) f (b + 1))) = _
      rw [Bool.and_assoc]
    rw [e] at h1 h0
    have ih := fun fl' => w_Re_lTL_12 (x1 := x1) hx (Q := Q) hS hc f (b + 1) fl' (by omega) (by omega)
    cases fl with
    | false => exact ⟨fun _ => ih false h1 h0, fun h9 => absurd rfl h9⟩
    | true =>
      rw [Bool.true_and] at h1 h0
      refine ⟨fun h9 => absurd h9 (by decide), fun _ => ⟨zin (by omega) (by omega), fun h9 => ?_, fun h9 => ⟨nI_ne0 (by omega) (by omega), zin (by omega) (by omega), fun h8 => ?_, fun h8 => ?_⟩⟩⟩
      · rw [stB_1 h9] at h1 h0
        exact ih true h1 h0
      · rw [stB_0 h9 h8] at h1 h0
        exact ih false h1 h0
      · rw [stB_2 (Classical.not_not.mp h8)] at h1 h0
        exact ih true h1 h0
/-- the least one below M that leaves so -/
def lsF (c : Nat → Int32) : Nat → Nat → Option Nat
  | 0, _ => none
  | f + 1, x => if satB c x = true then some x else lsF c f (x + 1)
def oI (o : Option Nat) : Int32 := match o with
  | none => - nI 1
  | some v => nI v
theorem lsF_some {c : Nat → Int32} : ∀ (f x l : Nat), lsF c f x = some l → satB c l = true ∧ x ≤ l ∧ l < x + f ∧ ∀ y, x ≤ y → y < l → satB c y = false
  | 0, x, l, h => by cases h
  | f + 1, x, l, h => by
    have e : lsF c (f + 1) x = if satB c x = true then some x else lsF c f (x + 1) := rfl
    rw [e] at h
    by_cases hs : satB c x = true
    · rw [if_pos hs] at h
      cases h
      exact ⟨hs, Nat.le_refl _, by omega, fun y a b => by omega⟩
    · rw [if_neg hs] at h
      obtain ⟨h1, h2, h3, h4⟩ := lsF_some f (x + 1) l h
      refine ⟨h1, by omega, by omega, fun y a b => ?_⟩
      by_cases e2 : y = x
      · rw [e2]
        cases hb : satB c x with
        | false => rfl
        | true => exact absurd hb hs
      · exact h4 y (by omega) b
theorem lsF_none {c : Nat → Int32} : ∀ (f x : Nat), lsF c f x = none → ∀ y, x ≤ y → y < x + f → satB c y = false
  | 0, x, h, y, a, b => by omega
  | f + 1, x, h, y, a, b => by
    have e : lsF c (f + 1) x = if satB c x = true then some x else lsF c f (x + 1) := rfl
    rw [e] at h
    by_cases hs : satB c x = true
    · rw [if_pos hs] at h
      cases h
    · rw [if_neg hs] at h
      by_cases e2 : y = x
      · rw [e2]
        cases hb : satB c x with
        | false => rfl
        | true => exact absurd hb hs
      · exact lsF_none f (x + 1) h y (by omega) (by omega)
theorem w_Re_lTL_2 {n : Nat} {c : Nat → Int32} (hn : n ≤ 1000000000) {S : ZSt} {Q : ZOut → ZSt → Prop} (hS : zSh S) (hc : ∀ j, j < 10 → zI S 103 j = c j) : ∀ (f x : Nat) (u3 u4 : Option Value), (f + x = 2520 ∧ f + x ≤ n + 1) ∨ (f + x = n + 1 ∧ f + x ≤ 2520) → Q (.inl (some (.int (oI (lsF c f x))))) S → zW 1 m_Re_leastThatLeaves 2 [some (.ref 103), some (.int (nI n)), some (.int (nI x)), u3, u4] [] S Q
  | 0, x, u3, u4, hx, hQ => b_Re_leastThatLeaves_2 hS ⟨fun _ => hQ, fun h9 => ⟨fun _ => hQ, fun h8 => by
      exfalso
      rcases hx with ⟨a, b⟩ | ⟨a, b⟩
      · exact h9 (nI_le (by omega) (by omega))
      · exact h8 (nI_lt (by omega) (by omega))⟩⟩
  | f + 1, x, u3, u4, hx, hQ => by
    have e : lsF c (f + 1) x = if satB c x = true then some x else lsF c f (x + 1) := rfl
    rw [e] at hQ
    refine b_Re_leastThatLeaves_2 hS ⟨fun h9 => absurd h9 (nI_ge (by omega) (by omega)), fun _ => ⟨fun h9 => absurd h9 (nI_nlt (by omega) (by omega)), fun _ => w_Re_lTL_12 (by omega) hS hc 8 2 true (by omega) (by omega) (fun hb => ?_) (fun hb u3 u4 => ?_)⟩⟩
    · rw [Bool.true_and] at hb
      rw [if_pos (show satB c x = true from hb)] at hQ
      exact hQ
    · rw [Bool.true_and] at hb
      rw [if_neg (show ¬ satB c x = true by unfold satB; rw [hb]; decide)] at hQ
      exact w_Re_lTL_2 hn hS hc f (x + 1) u3 u4 (by omega) hQ
/-! common multiples -/
def cmF (a b : Nat) : Nat → Nat → Nat
  | 0, _ => a
  | f + 1, t => if a * t % b = 0 then a * t else cmF a b f (t + 1)
theorem w_Re_cM_2 {a b : Nat} (ha : a ≤ 2520) (hb : 2 ≤ b ∧ b ≤ 9) {S : ZSt} {Q : ZOut → ZSt → Prop} (hS : zSh S) : ∀ (f t : Nat), f + t = 10 → Q (.inl (some (.int (nI (cmF a b f t))))) S → zW 1 m_Re_commonMultiple 2 [some (.int (nI a)), some (.int (nI b)), some (.int (nI t))] [] S Q
  | 0, t, ht, hQ => b_Re_commonMultiple_2 hS ⟨fun _ => hQ, fun h9 => absurd (nI_lt (by omega) (by omega)) h9⟩
  | f + 1, t, ht, hQ => by
    have hat : a * t ≤ 2520 * 9 := Nat.mul_le_mul ha (by omega)
    have e : cmF a b (f + 1) t = if a * t % b = 0 then a * t else cmF a b f (t + 1) := rfl
    rw [e] at hQ
    have hm := Nat.mod_lt (a * t) (show b > 0 by omega)
    refine b_Re_commonMultiple_2 hS ⟨fun h9 => absurd h9 (nI_nlt (by omega) (by omega)), fun _ => ⟨fun h9 => absurd h9 (nI_nle (by omega) (by omega)), fun _ => ⟨nI_ne0 (by omega) (by omega), ?_⟩⟩⟩
    rw [pk_mul, zrem (by omega) (by omega) (by omega), nI_add, nI_z (by omega)]
    refine ⟨fun h9 => ?_, fun h9 => ?_⟩
    · rw [if_neg h9] at hQ
      exact w_Re_cM_2 ha hb hS f (t + 1) (by omega) hQ
    · rw [if_pos (Classical.not_not.mp h9)] at hQ
      exact hQ
/-- what a common multiple is -/
def cmP (a b r : Nat) : Prop := a ∣ r ∧ b ∣ r ∧ ∀ m, a ∣ m → b ∣ m → r ∣ m
theorem cmF_p {a b : Nat} (ha : 0 < a) (hb : 2 ≤ b) : ∀ (f t : Nat), 1 ≤ t → b < t + f → (∀ s, 1 ≤ s → s < t → ¬ a * s % b = 0) → cmP a b (cmF a b f t)
  | 0, t, h1, h2, h3 => absurd (Nat.mul_mod_left a b) (h3 b (by omega) (by omega))
  | f + 1, t, h1, h2, h3 => by
    have e : cmF a b (f + 1) t = if a * t % b = 0 then a * t else cmF a b f (t + 1) := rfl
    rw [e]
    by_cases h : a * t % b = 0
    · rw [if_pos h]
      refine ⟨Nat.dvd_mul_right a t, Nat.dvd_of_mod_eq_zero h, fun m ⟨k, hk⟩ hm => ?_⟩
      rw [hk] at hm ⊢
      have h4 : b ∣ a * (k % t) := by
        have e1 : a * k = a * t * (k / t) + a * (k % t) := by
          rw [Nat.mul_assoc, ← Nat.mul_add, Nat.div_add_mod]
        rw [e1] at hm
        exact (Nat.dvd_add_right (Nat.dvd_trans (Nat.dvd_of_mod_eq_zero h) (Nat.dvd_mul_right _ _))).mp hm
      have h5 : k % t = 0 := by
        by_cases h6 : k % t = 0
        · exact h6
        · exact absurd (Nat.mod_eq_zero_of_dvd h4) (h3 (k % t) (by omega) (Nat.mod_lt _ (by omega)))
      exact Nat.mul_dvd_mul_left a (Nat.dvd_of_mod_eq_zero h5)
    · rw [if_neg h]
      refine cmF_p ha hb f (t + 1) (by omega) (by omega) (fun s a1 a2 => ?_)
      by_cases e2 : s = t
      · rw [e2]
        exact h
      · exact h3 s a1 (by omega)
def apF (c : Nat → Int32) : Nat → Nat → Nat → Nat
  | 0, _, a => a
  | f + 1, b, a => if c b = - nI 1 then apF c f (b + 1) a else apF c f (b + 1) (cmF a b 9 1)
/-- apart: the least common multiple of all that are known -/
def apP (c : Nat → Int32) (k d : Nat) : Prop := 0 < d ∧ (∀ b, 2 ≤ b → b < k → ¬ c b = - nI 1 → b ∣ d) ∧ ∀ m, (∀ b, 2 ≤ b → b < k → ¬ c b = - nI 1 → b ∣ m) → d ∣ m
theorem d2520 {b : Nat} (h : 2 ≤ b ∧ b ≤ 9) : b ∣ 2520 := by
  rcases (show b = 2 ∨ b = 3 ∨ b = 4 ∨ b = 5 ∨ b = 6 ∨ b = 7 ∨ b = 8 ∨ b = 9 by omega) with rfl | rfl | rfl | rfl | rfl | rfl | rfl | rfl <;> decide
theorem apP_step {c : Nat → Int32} {k a : Nat} (hk : 2 ≤ k ∧ k ≤ 9) (h : apP c k a) : (c k = - nI 1 → apP c (k + 1) a) ∧ (¬ c k = - nI 1 → apP c (k + 1) (cmF a k 9 1)) := by
  obtain ⟨h0, h1, h2⟩ := h
  refine ⟨fun e => ⟨h0, fun b a1 a2 a3 => ?_, fun m hm => h2 m (fun b a1 a2 a3 => hm b a1 (by omega) a3)⟩, fun e => ?_⟩
  · by_cases eb : b = k
    · rw [eb] at a3
      exact absurd e a3
    · exact h1 b a1 (by omega) a3
  · obtain ⟨p1, p2, p3⟩ := cmF_p h0 hk.1 9 1 (by omega) (by omega) (fun s a1 a2 => by omega)
    refine ⟨?_, fun b a1 a2 a3 => ?_, fun m hm => p3 m (h2 m (fun b a1 a2 a3 => hm b a1 (by omega) a3)) (hm k hk.1 (by omega) e)⟩
    · rcases Nat.eq_zero_or_pos (cmF a k 9 1) with h9 | h9
      · have : a * k = 0 := by
          have := p3 (a * k) (Nat.dvd_mul_right _ _) (Nat.dvd_mul_left _ _)
          rw [h9] at this
          exact Nat.eq_zero_of_zero_dvd this
        have := Nat.mul_pos h0 (show 0 < k by omega)
        omega
      · exact h9
    · by_cases eb : b = k
      · rw [eb]
        exact p2
      · exact Nat.dvd_trans (h1 b a1 (by omega) a3) p1
theorem apP_2520 {c : Nat → Int32} {k a : Nat} (hk : k ≤ 10) (h : apP c k a) : a ∣ 2520 ∧ a ≤ 2520 := by
  have := h.2.2 2520 (fun b a1 a2 _ => d2520 (by omega))
  exact ⟨this, Nat.le_of_dvd (by omega) this⟩
theorem w_Re_oW_4 {c : Nat → Int32} {x1 x2 : Int32} {S : ZSt} {Q : ZOut → ZSt → Prop} (hS : zSh S) (hc : ∀ j, j < 10 → zI S 103 j = c j) (h : ∀ d, apP c 10 d → zC m_Re_leastThatLeaves [.ref 103, .int x1] S (zback m_Re_oldWoman 35 20 [some (.ref 103), some (.int x1), some (.int x2), some (.int (nI d)), some (.int (nI 10)), none] [] (fun i1 l1 s1 S1 => zW 2 m_Re_oldWoman i1 l1 s1 S1 Q) (fun x S1 => Q (.inr x) S1))) : ∀ (f b a : Nat), f + b = 10 → 2 ≤ b → apP c b a → zW 2 m_Re_oldWoman 4 [some (.ref 103), some (.int x1), some (.int x2), some (.int (nI a)), some (.int (nI b)), none] [] S Q
  | 0, b, a, hb, h2, ha => by
    obtain rfl : b = 10 := by omega
    exact b_Re_oldWoman_4 hS ⟨fun _ => h a ha, fun h9 => absurd (by decide) h9⟩
  | f + 1, b, a, hb, h2, ha => by
    obtain ⟨s1, s2⟩ := apP_step (by omega) ha
    obtain ⟨q1, q2⟩ := apP_2520 (by omega) ha
    refine b_Re_oldWoman_4 hS ⟨fun h9 => absurd h9 (nI_nlt (by omega) (by omega)), fun _ => ⟨zin (by omega) (by omega), ?_⟩⟩
    rw [nI_add, zcl9 (by omega), hc b (by omega)]
    refine ⟨fun h9 => w_Re_oW_4 hS hc h f (b + 1) a (by omega) (by omega) (s1 h9), fun h9 => b_Re_commonMultiple hS (w_Re_cM_2 q2 (by omega) hS 9 1 (by omega) (b_Re_oldWoman_15 hS ?_))⟩
    rw [nI_add]
    exact w_Re_oW_4 hS hc h f (b + 1) _ (by omega) (by omega) (s2 h9)
/-- those that leave the same lie apart by d -/
theorem sat_mod {c : Nat → Int32} {d l x : Nat} (hd : apP c 10 d) (hl : satB c l = true) (hx : l ≤ x) : satB c x = true ↔ d ∣ x - l := by
  rw [sat_iff] at hl ⊢
  constructor
  · intro h
    refine hd.2.2 _ (fun b a1 a2 a3 => ?_)
    have h1 := (hl b a1 (by omega)).resolve_left a3
    have h2 := (h b a1 (by omega)).resolve_left a3
    have m1 := Nat.mod_lt l (show b > 0 by omega)
    have m2 := Nat.mod_lt x (show b > 0 by omega)
    have e : x % b = l % b := nEq (by omega) (by omega) (h2.trans h1.symm)
    exact Nat.dvd_of_mod_eq_zero (Nat.sub_mod_eq_zero_of_mod_eq e)
  · intro ⟨k, hk⟩ b a1 a2
    rcases hl b a1 a2 with h1 | h1
    · exact Or.inl h1
    · by_cases a3 : c b = - nI 1
      · exact Or.inl a3
      · right
        obtain ⟨j, hj⟩ := hd.2.1 b a1 (by omega) a3
        have e : x = l + b * (j * k) := by
          rw [← Nat.mul_assoc, ← hj]
          omega
        rw [e, Nat.add_mul_mod_self_left]
        exact h1
