/-! Fields shared by brothers: both sides -/
def own (F x f : Nat) : Nat := x / 4 ^ (F - 1 - f) % 4
def isSh (F B x : Nat) : Bool := decide (∀ f, f < F → own F x f < B)
def sumF (g : Nat → Nat) : Nat → Nat
  | 0 => 0
  | k + 1 => sumF g k + g k
def gF (F x : Nat) (w : Nat → Nat) (b o : Nat) (f : Nat) : Nat := if own F x f = o then w (4 * f + b) else 0
/-- what b thinks o's fields worth -/
def th (F x : Nat) (w : Nat → Nat) (b o : Nat) : Nat := sumF (gF F x w b o) F
theorem own_lt {F x f : Nat} : own F x f < 4 := Nat.mod_lt _ (by omega)
theorem zshr2 {n k : Nat} (hn : n < 2 ^ 31) (hk : k ≤ 5) : zShr (nI n) (nI (2 * k)) &&& nI 3 = nI (n / 4 ^ k % 4) := by
  have e : zShr (nI n) (nI (2 * k)) = nI (n / 2 ^ (2 * k)) := by
    rcases (show k = 0 ∨ k = 1 ∨ k = 2 ∨ k = 3 ∨ k = 4 ∨ k = 5 by omega) with rfl | rfl | rfl | rfl | rfl | rfl
    · exact pk_shrN hn _ 0 (by decide)
    · exact pk_shrN hn _ 2 (by decide)
    · exact pk_shrN hn _ 4 (by decide)
    · exact pk_shrN hn _ 6 (by decide)
    · exact pk_shrN hn _ 8 (by decide)
    · exact pk_shrN hn _ 10 (by decide)
  have hb : n / 2 ^ (2 * k) < 2 ^ 32 := Nat.lt_of_le_of_lt (Nat.div_le_self _ _) (by omega)
  rw [e, pk_andN hb 2 (by decide), Nat.pow_mul]
theorem w_M_owner {F x f : Nat} {S : ZSt} {Q : ZOut → ZSt → Prop} (hS : zSh S) (hx : x < 2 ^ 31) (hF : F ≤ 6) (hf : f < F) (hQ : Q (.inl (some (.int (nI (own F x f))))) S) : zC m_M_owner [.int (nI x), .int (nI F), .int (nI f)] S Q := by
  refine b_M_owner hS ?_
  rw [zsub1 (by omega), pk_sub (by omega), pk_mul, zshr2 hx (by omega)]
  exact hQ
/-- the worths -/
def jFi (f : Nat → Int32) (w : Nat → Nat) : Prop := ∀ j, j < 24 → f (83 + j) = nI (w j) ∧ w j ≤ 99
theorem w_M_thinks_4 {F x i j : Nat} {w : Nat → Nat} {S : ZSt} {Q : ZOut → ZSt → Prop} (hS : zSh S) (hw : jFi (zI S 132) w) (hx : x < 2 ^ 31) (hF : F ≤ 6) (hi : i < 4) (hj : j < 4) (hQ : Q (.inl (some (.int (nI (th F x w i j))))) S) : ∀ (f k : Nat), f + k = F → zW 2 m_M_thinks 4 [some (.ref 130), some (.int (nI x)), some (.int (nI F)), some (.int (nI i)), some (.int (nI j)), some (.int (nI (sumF (gF F x w i j) k))), some (.int (nI k))] [] S Q
  | 0, k, hk => by
    obtain rfl : k = F := by omega
    exact b_M_thinks_4 hS ⟨fun _ => hQ, fun h9 => absurd (nI_le (Nat.le_refl _) (by omega)) h9⟩
  | f + 1, k, hk => by
    have e : sumF (gF F x w i j) (k + 1) = sumF (gF F x w i j) k + gF F x w i j k := rfl
    refine b_M_thinks_4 hS ⟨fun h9 => absurd h9 (nI_ge (by omega) (by omega)), fun _ => w_M_owner hS hx hF (by omega) (b_M_thinks_12 hS ?_)⟩
    have ho := own_lt (F := F) (x := x) (f := k)
    rw [nI_add, nI_add, pk_mul, nI_add, nI_add, zcl9 (by omega)]
    refine ⟨fun h9 => ?_, fun h9 => ⟨zin (by omega) (by omega), ?_⟩⟩
    · have g0 : gF F x w i j k = 0 := if_neg (fun e => h9 (by rw [e]))
      rw [g0] at e
      rw [← e]
      exact w_M_thinks_4 hS hw hx hF hi hj hQ f (k + 1) (by omega)
    · have g0 : gF F x w i j k = w (4 * k + i) := if_pos (nEq (by omega) (by omega) (Classical.not_not.mp h9))
      rw [Nat.add_assoc, (hw (4 * k + i) (by omega)).1, nI_add, ← g0, ← e]
      exact w_M_thinks_4 hS hw hx hF hi hj hQ f (k + 1) (by omega)
theorem w_M_thinks {F x i j : Nat} {w : Nat → Nat} {S : ZSt} {Q : ZOut → ZSt → Prop} (hS : zSh S) (hw : jFi (zI S 132) w) (hx : x < 2 ^ 31) (hF : F ≤ 6) (hi : i < 4) (hj : j < 4) (hQ : Q (.inl (some (.int (nI (th F x w i j))))) S) : zC m_M_thinks [.ref 130, .int (nI x), .int (nI F), .int (nI i), .int (nI j)] S Q := b_M_thinks hS (w_M_thinks_4 hS hw hx hF hi hj hQ F 0 (by omega))
theorem sumF_le {g : Nat → Nat} {c : Nat} : ∀ (k : Nat), (∀ f, f < k → g f ≤ c) → sumF g k ≤ c * k
  | 0, _ => Nat.zero_le _
  | k + 1, h => by
    have h1 := sumF_le k (fun f hf => h f (by omega))
    have h2 := h k (by omega)
    show sumF g k + g k ≤ c * (k + 1)
    rw [Nat.mul_succ]
    omega
theorem th_le {F x b o : Nat} {w : Nat → Nat} (hF : F ≤ 6) (hb : b < 4) (hw : ∀ j, j < 24 → w j ≤ 99) : th F x w b o ≤ 99 * F := sumF_le F (fun f hf => by
  unfold gF
  split
  · exact hw _ (by omega)
  · omega)
def anyF (P : Nat → Bool) : Nat → Nat → Bool
  | 0, _ => false
  | f + 1, k => if P k = true then true else anyF P f (k + 1)
/-- somebody's fields are worth more to b than his own -/
def evB (t : Nat → Nat → Nat) (B b : Nat) : Bool := anyF (fun o => decide (t b b < t b o)) B 0
def envi (t : Nat → Nat → Nat) (B : Nat) : Int32 := firstN (evB t B) B 0
theorem w_M_envious_7 {F B x i : Nat} {w : Nat → Nat} {S : ZSt} {Q : ZOut → ZSt → Prop} (hS : zSh S) (hw : jFi (zI S 132) w) (hx : x < 2 ^ 31) (hF : F ≤ 6) (hB : B ≤ 4) (hi : i < B) : ∀ (f k : Nat), f + k = B → (anyF (fun o => decide (th F x w i i < th F x w i o)) f k = true → Q (.inl (some (.int (nI i)))) S) → (anyF (fun o => decide (th F x w i i < th F x w i o)) f k = false → ∀ u5, zW 3 m_M_envious 2 [some (.ref 130), some (.int (nI x)), some (.int (nI F)), some (.int (nI B)), some (.int (nI (i + 1))), u5] [] S Q) → zW 3 m_M_envious 7 [some (.ref 130), some (.int (nI x)), some (.int (nI F)), some (.int (nI B)), some (.int (nI i)), some (.int (nI k))] [] S Q
  | 0, k, hk, h1, h2 => by
    refine b_M_envious_7 hS ⟨fun _ => ?_, fun h9 => absurd (nI_le (by omega) (by omega)) h9⟩
    rw [nI_add]
    exact h2 rfl _
  | f + 1, k, hk, h1, h2 => by
    have hwb : ∀ j, j < 24 → w j ≤ 99 := fun j hj => (hw j hj).2
    have b1 := th_le (x := x) (b := i) (o := k) hF (by omega) hwb
    have b2 := th_le (x := x) (b := i) (o := i) hF (by omega) hwb
    refine b_M_envious_7 hS ⟨fun h9 => absurd h9 (nI_ge (by omega) (by omega)), fun _ => w_M_thinks hS hw hx hF (by omega) (by omega) (b_M_envious_16 hS (w_M_thinks hS hw hx hF (by omega) (by omega) (b_M_envious_22 hS ⟨fun h9 => ?_, fun h9 => ?_⟩)))⟩
    · have h8 : ¬ th F x w i i < th F x w i k := fun h7 => absurd h9 (nI_ge h7 (by omega))
      have e : anyF (fun o => decide (th F x w i i < th F x w i o)) (f + 1) k = anyF (fun o => decide (th F x w i i < th F x w i o)) f (k + 1) := if_neg (by rw [decide_eq_true_eq]; exact h8)
      rw [e] at h1 h2
      rw [nI_add]
      exact w_M_envious_7 hS hw hx hF hB hi f (k + 1) (by omega) h1 h2
    · have h8 : th F x w i i < th F x w i k := Nat.not_le.mp (fun h7 => h9 (nI_le h7 (by omega)))
      exact h1 (if_pos (decide_eq_true h8))
theorem w_M_envious_2 {F B x : Nat} {w : Nat → Nat} {S : ZSt} {Q : ZOut → ZSt → Prop} (hS : zSh S) (hw : jFi (zI S 132) w) (hx : x < 2 ^ 31) (hF : F ≤ 6) (hB : B ≤ 4) : ∀ (f i : Nat) (u5 : Option Value), f + i = B → Q (.inl (some (.int (firstN (evB (th F x w) B) f i)))) S → zW 3 m_M_envious 2 [some (.ref 130), some (.int (nI x)), some (.int (nI F)), some (.int (nI B)), some (.int (nI i)), u5] [] S Q
  | 0, i, u5, hi, hQ => b_M_envious_2 hS ⟨fun _ => hQ, fun h9 => absurd (nI_le (by omega) (by omega)) h9⟩
  | f + 1, i, u5, hi, hQ => by
    refine b_M_envious_2 hS ⟨fun h9 => absurd h9 (nI_ge (by omega) (by omega)), fun _ => w_M_envious_7 hS hw hx hF hB (by omega) B 0 (by omega) (fun hb => ?_) (fun hb u5 => ?_)⟩
    · rw [firstN, if_pos (show evB (th F x w) B i = true from hb)] at hQ
      exact hQ
    · rw [firstN, if_neg (show ¬ evB (th F x w) B i = true by show ¬ anyF (fun o => decide (th F x w i i < th F x w i o)) B 0 = true; rw [hb]; decide)] at hQ
      exact w_M_envious_2 hS hw hx hF hB f (i + 1) u5 (by omega) hQ
theorem w_M_envious {F B x : Nat} {w : Nat → Nat} {S : ZSt} {Q : ZOut → ZSt → Prop} (hS : zSh S) (hw : jFi (zI S 132) w) (hx : x < 2 ^ 31) (hF : F ≤ 6) (hB : B ≤ 4) (hQ : Q (.inl (some (.int (envi (th F x w) B)))) S) : zC m_M_envious [.ref 130, .int (nI x), .int (nI F), .int (nI B)] S Q := b_M_envious hS (w_M_envious_2 hS hw hx hF hB B 0 none (by omega) hQ)
theorem w_M_isSharing_13 {F B x : Nat} {S : ZSt} {Q : ZOut → ZSt → Prop} (hS : zSh S) (hx : x < 2 ^ 31) (hF : F ≤ 6) (hB : B ≤ 4) : ∀ (f k : Nat), f + k = F → (∀ j, j < k → own F x j < B) → (isSh F B x = true → Q (.inl (some (.int (nI 1)))) S) → (isSh F B x = false → Q (.inl (some (.int (nI 0)))) S) → zW 2 m_M_isSharing 13 [some (.int (nI x)), some (.int (nI F)), some (.int (nI B)), some (.int (nI k))] [] S Q
  | 0, k, hk, hj, h1, h2 => b_M_isSharing_13 hS ⟨fun _ => ⟨rfl, h1 (decide_eq_true (fun f hf => hj f (by omega)))⟩, fun h9 => absurd (nI_le (by omega) (by omega)) h9⟩
  | f + 1, k, hk, hj, h1, h2 => by
    have ho := own_lt (F := F) (x := x) (f := k)
    refine b_M_isSharing_13 hS ⟨fun h9 => absurd h9 (nI_ge (by omega) (by omega)), fun _ => w_M_owner hS hx hF (by omega) (b_M_isSharing_20 hS ⟨fun h9 => ?_, fun h9 => ⟨rfl, h2 (decide_eq_false (fun h8 => h9 (nI_lt (h8 k (by omega)) (by omega))))⟩⟩)⟩
    have h8 : own F x k < B := (nI_ltI (by omega) (by omega)).mp h9
    rw [nI_add]
    refine w_M_isSharing_13 hS hx hF hB f (k + 1) (by omega) (fun j h7 => ?_) h1 h2
    by_cases e : j = k
    · rw [e]
      exact h8
    · exact hj j (by omega)
theorem zshl4 {F : Nat} (hF : F ≤ 6) : zShl (nI 1) (nI 2 * nI F) = nI (4 ^ F) := by
  rw [pk_mul]
  rcases (show F = 0 ∨ F = 1 ∨ F = 2 ∨ F = 3 ∨ F = 4 ∨ F = 5 ∨ F = 6 by omega) with rfl | rfl | rfl | rfl | rfl | rfl | rfl <;> decide
theorem pow4 {F : Nat} (hF : F ≤ 6) : 4 ^ F ≤ 4096 := by
  have : 4 ^ F ≤ 4 ^ 6 := Nat.pow_le_pow_right (by omega) hF
  omega
theorem w_M_isSharing {F B : Nat} {v : Int32} {S : ZSt} {Q : ZOut → ZSt → Prop} (hS : zSh S) (hF : F ≤ 6) (hB : B ≤ 4) (ok : ∀ x, x < 4 ^ F → v = nI x → isSh F B x = true → Q (.inl (some (.int (nI 1)))) S) (bad : (∀ x, x < 4 ^ F → v = nI x → isSh F B x = false) → Q (.inl (some (.int (nI 0)))) S) : zC m_M_isSharing [.int v, .int (nI F), .int (nI B)] S Q := by
  have hp := pow4 hF
  refine b_M_isSharing hS ?_
  rw [zshl4 hF]
  refine ⟨fun h9 => ⟨rfl, bad (fun x hx e => absurd h9 (by rw [e]; exact nI_pos (by omega)))⟩, fun h0 => ⟨fun h9 => ?_, fun h9 => ⟨rfl, bad (fun x hx e => absurd (by rw [e]; exact nI_lt hx (by omega)) h9)⟩⟩⟩
  obtain ⟨x, hx, rfl⟩ := nI_of h0
  have hx4 : x < 4 ^ F := (nI_ltI hx (by omega)).mp h9
  exact w_M_isSharing_13 hS hx hF hB F 0 (by omega) (fun j hj => by omega) (fun h => ok x hx4 rfl h) (fun h => bad (fun y hy e => by
    obtain rfl : x = y := nEq (by omega) (by omega) e
    exact h))
/-! the object's side -/
theorem w_Sh_sharingsOf_4 {F : Nat} (hF : F ≤ 6) {S : ZSt} {Q : ZOut → ZSt → Prop} (hS : zSh S) (hQ : Q (.inl (some (.int (nI (4 ^ F))))) S) : ∀ (f k : Nat), f + k = F → zW 1 m_Sh_sharingsOf 4 [some (.int (nI F)), some (.int (nI (4 ^ k))), some (.int (nI k))] [] S Q
  | 0, k, hk => by
    obtain rfl : k = F := by omega
    exact b_Sh_sharingsOf_4 hS ⟨fun _ => hQ, fun h9 => absurd (nI_le (Nat.le_refl _) (by omega)) h9⟩
  | f + 1, k, hk => by
    refine b_Sh_sharingsOf_4 hS ⟨fun h9 => absurd h9 (nI_ge (by omega) (by omega)), fun _ => ?_⟩
    rw [nI_add, pk_mul, ← Nat.pow_succ]
    exact w_Sh_sharingsOf_4 hF hS hQ f (k + 1) (by omega)
theorem w_Sh_sharingsOf {F : Nat} (hF : F ≤ 6) {S : ZSt} {Q : ZOut → ZSt → Prop} (hS : zSh S) (hQ : Q (.inl (some (.int (nI (4 ^ F))))) S) : zC m_Sh_sharingsOf [.int (nI F)] S Q := b_Sh_sharingsOf hS (w_Sh_sharingsOf_4 hF hS hQ F 0 (by omega))
def jFo (f : Nat → Int32) (w : Nat → Nat) : Prop := ∀ j, j < 24 → f j = nI (w j) ∧ w j ≤ 99
def thS (S : ZSt) (F x B : Nat) (w : Nat → Nat) (kf : Nat → Nat) : Prop := ∀ b, b < B → ∀ o, o < 4 → ∃ v, zI S 124 (4 * b + o) = nI v ∧ v + sumF (gF F x w b o) (kf b) = sumF (gF F x w b o) F
theorem w_Sh_divide_39 {F B x k : Nat} {w : Nat → Nat} {x4 : Int32} (hF : F ≤ 6) (hB : B ≤ 4) (hk : k < F) {r : Int32} {Q : ZOut → ZSt → Prop} : ∀ (f c : Nat) {S : ZSt}, zSh S → jFo (zI S 99) w → f + c = B → thS S F x B w (fun b => if b < c then k else k + 1) → (∀ S' y, zJ [124] S S' → thS S' F x B w (fun _ => k) → zW 2 m_Sh_divide 22 [some (.ref 123), some (.ref 99), some (.int (nI F)), some (.int (nI B)), some (.int x4), some (.int r), some (.int (nI k - nI 1)), some (.int (nI (own F x k))), some (.int y)] [] S' Q) → zW 2 m_Sh_divide 39 [some (.ref 123), some (.ref 99), some (.int (nI F)), some (.int (nI B)), some (.int x4), some (.int r), some (.int (nI k)), some (.int (nI (own F x k))), some (.int (nI c))] [] S Q
  | 0, c, S, hS, hw, hc, ht, h => by
    refine b_Sh_divide_39 hS ⟨fun _ => ?_, fun h9 => absurd (nI_le (by omega) (by omega)) h9⟩
    rw [← Int32.sub_eq_add_neg]
    refine h S _ zJ.rf (fun b hb o ho => ?_)
    have := ht b hb o ho
    rw [show (fun b => if b < c then k else k + 1) b = k from if_pos (by omega)] at this
    exact this
  | f + 1, c, S, hS, hw, hc, ht, h => by
    have how := own_lt (F := F) (x := x) (f := k)
    refine b_Sh_divide_39 hS ⟨fun h9 => absurd h9 (nI_ge (by omega) (by omega)), fun _ => ⟨fun h9 => absurd h9 (nI_ge (by omega) (by omega)), fun _ => ?_⟩⟩
    rw [pk_mul, pk_mul, nI_add, nI_add, nI_add, zcl9 (by omega), zcl9 (by omega), (hw (k * 4 + c) (by omega)).1]
    refine ⟨zin (by omega) (by omega), zin (by omega) (by omega), zin (by omega) (by omega), ?_⟩
    obtain ⟨v, e1, e2⟩ := ht c (by omega) (own F x k) how
    rw [show c * 4 + own F x k = 4 * c + own F x k by omega, e1, nI_add]
    have j : zJ [124] S (zsI S 124 (4 * c + own F x k) (nI (v + w (k * 4 + c)))) := zJ.rf.I rfl
    refine w_Sh_divide_39 hF hB hk f (c + 1) (S := zsI S 124 (4 * c + own F x k) (nI (v + w (k * 4 + c)))) hS hw (by omega) (fun b hb o ho => ?_) (fun S' y j' => h S' y (j.tr j'))
    rw [zI_eq, zupd]
    by_cases e : b = c ∧ o = own F x k
    · obtain ⟨rfl, rfl⟩ := e
      rw [if_pos rfl]
      refine ⟨_, rfl, ?_⟩
      rw [show (fun b' => if b' < b + 1 then k else k + 1) b = k from if_pos (by omega)]
      rw [show (fun b' => if b' < b then k else k + 1) b = k + 1 from if_neg (by omega)] at e2
      have g0 : gF F x w b (own F x k) k = w (4 * k + b) := if_pos rfl
      have e3 : sumF (gF F x w b (own F x k)) (k + 1) = sumF (gF F x w b (own F x k)) k + gF F x w b (own F x k) k := rfl
      rw [show k * 4 + b = 4 * k + b by omega]
      omega
    · rw [if_neg (by omega)]
      obtain ⟨u, u1, u2⟩ := ht b hb o ho
      refine ⟨u, u1, ?_⟩
      by_cases e4 : b = c
      · subst e4
        have hne : o ≠ own F x k := fun e5 => e ⟨rfl, e5⟩
        rw [show (fun b' => if b' < b then k else k + 1) b = k + 1 from if_neg (by omega)] at u2
        rw [show (fun b' => if b' < b + 1 then k else k + 1) b = k from if_pos (by omega)]
        have g0 : gF F x w b o k = 0 := if_neg (fun e5 => hne e5.symm)
        have e3 : sumF (gF F x w b o) (k + 1) = sumF (gF F x w b o) k + gF F x w b o k := rfl
        omega
      · have e5 : (if b < c + 1 then k else k + 1) = (if b < c then k else k + 1) := by
          by_cases h8 : b < c
          · rw [if_pos h8, if_pos (by omega)]
          · rw [if_neg h8, if_neg (by omega)]
        show u + sumF (gF F x w b o) (if b < c + 1 then k else k + 1) = _
        rw [e5]
        exact u2
theorem w_Sh_divide_22 {F B x : Nat} {w : Nat → Nat} {x4 : Int32} (hF : F ≤ 6) (hB : B ≤ 4) (hx : x < 2 ^ 31) {Q : ZOut → ZSt → Prop} : ∀ (k : Nat) {u7 u8 : Option Value} {S : ZSt}, zSh S → jFo (zI S 99) w → k ≤ F → (∀ f, k ≤ f → f < F → own F x f < B) → thS S F x B w (fun _ => k) → (isSh F B x = true → ∀ S', zJ [124] S S' → (∀ b, b < B → ∀ o, o < 4 → zI S' 124 (4 * b + o) = nI (th F x w b o)) → Q (.inl (some (.int (nI 1)))) S') → (isSh F B x = false → ∀ S', zJ [124] S S' → Q (.inl (some (.int (nI 0)))) S') → zW 2 m_Sh_divide 22 [some (.ref 123), some (.ref 99), some (.int (nI F)), some (.int (nI B)), some (.int x4), some (.int (nI (x / 4 ^ (F - k)))), some (.int (nI k - nI 1)), u7, u8] [] S Q
  | 0, u7, u8, S, hS, hw, hk, hf, ht, h1, h2 => by
    refine b_Sh_divide_22 hS ⟨fun _ => ⟨rfl, h1 (decide_eq_true (fun f h => hf f (by omega) h)) S zJ.rf (fun b hb o ho => ?_)⟩, fun h9 => absurd (by decide) h9⟩
    obtain ⟨v, e1, e2⟩ := ht b hb o ho
    rw [e1]
    have e3 : sumF (gF F x w b o) 0 = 0 := rfl
    have e4 : th F x w b o = sumF (gF F x w b o) F := rfl
    rw [e4, ← e2]
    show nI v = nI (v + sumF (gF F x w b o) 0)
    rw [e3, Nat.add_zero]
  | k + 1, u7, u8, S, hS, hw, hk, hf, ht, h1, h2 => by
    have hq : x / 4 ^ (F - (k + 1)) < 2 ^ 31 := Nat.lt_of_le_of_lt (Nat.div_le_self _ _) hx
    have eo : x / 4 ^ (F - (k + 1)) % 4 = own F x k := by
      unfold own
      rw [show F - 1 - k = F - (k + 1) by omega]
    have how := own_lt (F := F) (x := x) (f := k)
    rw [zsub1 (by omega), show k + 1 - 1 = k by omega]
    refine b_Sh_divide_22 hS ⟨fun h9 => absurd h9 (nI_pos (by omega)), fun _ => ⟨by decide, by decide, ?_⟩⟩
    rw [zrem hq (by omega) (by omega), pk_div hq (by omega) (by omega), ddiv, eo, show F - (k + 1) + 1 = F - k by omega]
    refine ⟨fun h9 => ?_, fun h9 => ⟨rfl, h2 (decide_eq_false (fun h8 => h9 (nI_lt (h8 k (by omega)) (by omega)))) S zJ.rf⟩⟩
    have h8 : own F x k < B := (nI_ltI (by omega) (by omega)).mp h9
    refine w_Sh_divide_39 hF hB (by omega) B 0 hS hw (by omega) (fun b hb o ho => ?_) (fun S1 y j1 t1 => ?_)
    · have := ht b hb o ho
      rw [show (fun b => if b < 0 then k else k + 1) b = k + 1 from if_neg (by omega)]
      exact this
    · refine w_Sh_divide_22 hF hB hx k (j1.sh hS) (by rw [j1.2 99 rfl]; exact hw) (by omega) (fun f a b => ?_) t1 (fun hb S' j' => h1 hb S' (j1.tr j')) (fun hb S' j' => h2 hb S' (j1.tr j'))
      by_cases e : f = k
      · rw [e]
        exact h8
      · exact hf f (by omega) b
theorem w_Sh_divide {F B : Nat} {w : Nat → Nat} {v : Int32} {S : ZSt} {Q : ZOut → ZSt → Prop} (hS : zSh S) (hw : jFo (zI S 99) w) (hF : 1 ≤ F ∧ F ≤ 6) (hB : B ≤ 4) (ok : ∀ x, x < 4 ^ F → v = nI x → isSh F B x = true → ∀ S', zJ [124] S S' → (∀ b, b < B → ∀ o, o < 4 → zI S' 124 (4 * b + o) = nI (th F x w b o)) → Q (.inl (some (.int (nI 1)))) S') (bad : (∀ x, x < 4 ^ F → v = nI x → isSh F B x = false) → ∀ S', zJ [124] S S' → Q (.inl (some (.int (nI 0)))) S') : zC m_Sh_divide [.ref 123, .ref 99, .int (nI F), .int (nI B), .int v] S Q := by
  have hp := pow4 hF.2
  refine b_Sh_divide hS (w_JA_fill hS (zA_of hS (c := 124) (n := 16) rfl) (by omega) (fun S1 j1 f1 => b_Sh_divide_4 (j1.sh hS) ?_))
  have hS1 := j1.sh hS
  refine w_Sh_sharingsOf hF.2 hS1 (b_Sh_divide_8 hS1 (w_N_isNotU (by omega) hS1 (fun ⟨x, hx, e⟩ => b_Sh_divide_11 hS1 ⟨fun _ => ?_, fun h9 => absurd (by decide) h9⟩) (fun h9 => b_Sh_divide_11 hS1 ⟨fun h8 => absurd h8 (by decide), fun _ => ⟨rfl, bad (fun x hx e => absurd e (h9 x hx)) S1 j1⟩⟩)))
  subst e
  have em : (if nI 6 < nI F then nI 6 else nI F) = nI F := if_neg (nI_nlt (by omega) (by omega))
  rw [em]
  have key := w_Sh_divide_22 (F := F) (B := B) (x := x) (w := w) (x4 := nI x) hF.2 hB (by omega) (Q := Q) F (u7 := none) (u8 := none) (S := S1) hS1 (by rw [j1.2 99 rfl]; exact hw) (Nat.le_refl _) (fun f a b => by omega) (fun b hb o ho => ⟨0, f1 _ (by omega), Nat.zero_add _⟩) (fun hb S' j' h' => ok x hx rfl hb S' (j1.tr j') h') (fun hb S' j' => bad (fun y hy e => by
    obtain rfl : x = y := nEq (by omega) (by omega) e
    exact hb) S' (j1.tr j'))
  rw [Nat.sub_self, Nat.pow_zero, Nat.div_one] at key
  exact key
/-- the thoughts stand -/
def thO (S : ZSt) (B : Nat) (t : Nat → Nat → Nat) : Prop := ∀ b, b < B → ∀ o, o < 4 → zI S 124 (4 * b + o) = nI (t b o) ∧ t b o ≤ 1000
theorem w_Sh_fE_19 {B b : Nat} {t : Nat → Nat → Nat} {S : ZSt} {Q : ZOut → ZSt → Prop} (hS : zSh S) (ht : thO S B t) (hB : B ≤ 4) (hb : b < B) : ∀ (f k : Nat), f + k = B → (anyF (fun o => decide (t b b < t b o)) f k = true → Q (.inl (some (.int (nI b)))) S) → (anyF (fun o => decide (t b b < t b o)) f k = false → ∀ u4, zW 1 m_Sh_firstEnvious 2 [some (.ref 123), some (.int (nI B)), some (.int (nI (b + 1))), some (.int (nI (t b b))), u4] [] S Q) → zW 1 m_Sh_firstEnvious 19 [some (.ref 123), some (.int (nI B)), some (.int (nI b)), some (.int (nI (t b b))), some (.int (nI k))] [] S Q
  | 0, k, hk, h1, h2 => by
    refine b_Sh_firstEnvious_19 hS ⟨fun _ => ?_, fun h9 => absurd (nI_le (by omega) (by omega)) h9⟩
    rw [nI_add]
    exact h2 rfl _
  | f + 1, k, hk, h1, h2 => by
    obtain ⟨e1, b1⟩ := ht b hb k (by omega)
    obtain ⟨e2, b2⟩ := ht b hb b (by omega)
    refine b_Sh_firstEnvious_19 hS ⟨fun h9 => absurd h9 (nI_ge (by omega) (by omega)), fun _ => ⟨fun h9 => absurd h9 (nI_ge (by omega) (by omega)), fun _ => ?_⟩⟩
    rw [pk_mul, nI_add, nI_add, zcl9 (by omega), show b * 4 + k = 4 * b + k by omega, e1]
    refine ⟨zin (by omega) (by omega), fun h9 => ?_, fun h9 => ?_⟩
    · have h8 : ¬ t b b < t b k := fun h7 => absurd h9 (nI_ge h7 (by omega))
      have e : anyF (fun o => decide (t b b < t b o)) (f + 1) k = anyF (fun o => decide (t b b < t b o)) f (k + 1) := if_neg (by rw [decide_eq_true_eq]; exact h8)
      rw [e] at h1 h2
      exact w_Sh_fE_19 hS ht hB hb f (k + 1) (by omega) h1 h2
    · have h8 : t b b < t b k := Nat.not_le.mp (fun h7 => h9 (nI_le h7 (by omega)))
      exact h1 (if_pos (decide_eq_true h8))
theorem w_Sh_fE_2 {B : Nat} {t : Nat → Nat → Nat} {S : ZSt} {Q : ZOut → ZSt → Prop} (hS : zSh S) (ht : thO S B t) (hB : B ≤ 4) : ∀ (f b : Nat) (u3 u4 : Option Value), f + b = B → Q (.inl (some (.int (firstN (evB t B) f b)))) S → zW 1 m_Sh_firstEnvious 2 [some (.ref 123), some (.int (nI B)), some (.int (nI b)), u3, u4] [] S Q
  | 0, b, u3, u4, hb, hQ => b_Sh_firstEnvious_2 hS ⟨fun _ => hQ, fun h9 => absurd (nI_le (by omega) (by omega)) h9⟩
  | f + 1, b, u3, u4, hb, hQ => by
    refine b_Sh_firstEnvious_2 hS ⟨fun h9 => absurd h9 (nI_ge (by omega) (by omega)), fun _ => ⟨fun h9 => absurd h9 (nI_ge (by omega) (by omega)), fun _ => ?_⟩⟩
    rw [pk_mul, nI_add, zcl9 (by omega), show b * 4 + b = 4 * b + b by omega, (ht b (by omega) b (by omega)).1]
    refine ⟨zin (by omega) (by omega), w_Sh_fE_19 hS ht hB (by omega) B 0 (by omega) (fun hb2 => ?_) (fun hb2 u4 => ?_)⟩
    · rw [firstN, if_pos (show evB t B b = true from hb2)] at hQ
      exact hQ
    · rw [firstN, if_neg (show ¬ evB t B b = true by show ¬ anyF (fun o => decide (t b b < t b o)) B 0 = true; rw [hb2]; decide)] at hQ
      exact w_Sh_fE_2 hS ht hB f (b + 1) _ u4 (by omega) hQ
theorem w_Sh_firstEnvious {B : Nat} {t : Nat → Nat → Nat} {S : ZSt} {Q : ZOut → ZSt → Prop} (hS : zSh S) (ht : thO S B t) (hB : B ≤ 4) (hQ : Q (.inl (some (.int (envi t B)))) S) : zC m_Sh_firstEnvious [.ref 123, .int (nI B)] S Q := b_Sh_firstEnvious hS (w_Sh_fE_2 hS ht hB B 0 none none (by omega) hQ)
