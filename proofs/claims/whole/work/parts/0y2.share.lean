/-! share, even, envy: alike -/
def zPty (v1 v2 : Int32) : Prop := ∃ F B : Nat, 1 ≤ F ∧ F ≤ 6 ∧ 1 ≤ B ∧ B ≤ 4 ∧ v1 = nI F ∧ v2 = nI B
theorem w_N_isNoParty {v1 v2 : Int32} {S : ZSt} {Q : ZOut → ZSt → Prop} (hS : zSh S) (ok : zPty v1 v2 → Q (.inl (some (.int (nI 0)))) S) (bad : ¬ zPty v1 v2 → Q (.inl (some (.int (nI 1)))) S) : zC m_N_isNoParty [.int v1, .int v2] S Q := by
  refine b_N_isNoParty hS (w_N_isNotR rfl hS (fun ⟨F, a1, a2, a3⟩ => b_N_isNoParty_4 hS ⟨fun h9 => absurd (by decide) h9, fun _ => ?_⟩) (fun h9 => b_N_isNoParty_4 hS ⟨fun _ => ⟨rfl, bad (fun ⟨F, B, b1, b2, b3, b4, b5, b6⟩ => h9 ⟨F, b1, b2, b5⟩)⟩, fun h8 => absurd (by decide) h8⟩))
  exact w_N_isNotR rfl hS (fun ⟨B, c1, c2, c3⟩ => b_N_isNoParty_9 hS ⟨fun _ => ⟨rfl, ok ⟨F, B, a1, a2, c1, c2, a3, c3⟩⟩, fun h8 => absurd (by decide) h8⟩) (fun h9 => b_N_isNoParty_9 hS ⟨fun h8 => absurd h8 (by decide), fun _ => ⟨rfl, bad (fun ⟨F, B, b1, b2, b3, b4, b5, b6⟩ => h9 ⟨B, b3, b4, b6⟩)⟩⟩)
theorem w_M_mayShare {v1 v2 : Int32} {S : ZSt} {Q : ZOut → ZSt → Prop} (hS : zSh S) (ok : zPty v1 v2 → Q (.inl (some (.int (nI 1)))) S) (bad : ¬ zPty v1 v2 → Q (.inl (some (.int (nI 0)))) S) : zC m_M_mayShare [.int v1, .int v2] S Q := by
  refine b_M_mayShare hS (w_M_withinR rfl hS (fun ⟨F, a1, a2, a3⟩ => b_M_mayShare_4 hS ⟨fun h9 => absurd h9 (by decide), fun _ => ?_⟩) (fun h9 => b_M_mayShare_4 hS ⟨fun _ => ⟨rfl, bad (fun ⟨F, B, b1, b2, b3, b4, b5, b6⟩ => h9 ⟨F, b1, b2, b5⟩)⟩, fun h8 => absurd (by decide) h8⟩))
  exact w_M_withinR rfl hS (fun ⟨B, c1, c2, c3⟩ => b_M_mayShare_9 hS ⟨fun h8 => absurd h8 (by decide), fun _ => ⟨rfl, ok ⟨F, B, a1, a2, c1, c2, a3, c3⟩⟩⟩) (fun h9 => b_M_mayShare_9 hS ⟨fun _ => ⟨rfl, bad (fun ⟨F, B, b1, b2, b3, b4, b5, b6⟩ => h9 ⟨B, b3, b4, b6⟩)⟩, fun h8 => absurd (by decide) h8⟩)
def wF (S : ZSt) (j : Nat) : Nat := (zI S 132 (83 + j)).toNatClampNeg
theorem jCore.wM {S : ZSt} (h : jCore S) : jFi (zI S 132) (wF S) := fun j hj => jRg_c (h.1.2.2.2.2.1 j hj).2 (by omega)
theorem jCore.wO {S : ZSt} (h : jCore S) : jFo (zI S 99) (wF S) := fun j hj => by
  have h1 := h.wM j hj
  have h2 := (h.1.2.2.2.2.1 j hj).1
  exact ⟨h2.trans h1.1, h1.2⟩
theorem jFi.T {S T : ZSt} {w : Nat → Nat} (h : jFi (zI S 132) w) (hT : zAt S T) : jFi (zI (zsI T 130 0 (nI 0)) 132) w := by
  show jFi (zI T 132) w
  rw [hT.at rfl]
  exact h
theorem thO_of {S : ZSt} {F x B : Nat} {w : Nat → Nat} (hF : F ≤ 6) (hB : B ≤ 4) (hw : ∀ j, j < 24 → w j ≤ 99) (h : ∀ b, b < B → ∀ o, o < 4 → zI S 124 (4 * b + o) = nI (th F x w b o)) : thO S B (th F x w) := fun b hb o ho => ⟨h b hb o ho, by have := th_le (x := x) (o := o) hF (show b < 4 by omega) hw; omega⟩
theorem zMo_ok {T : ZSt} {v : Int32} (hT : zSh T) : zMo T (.inr v) (.inl (some (.int v))) (zsI T 130 0 (nI 0)) := ⟨rfl, zH0, hT, rfl, zKM0, zI_s⟩
theorem p_envy {v1 v2 v3 : Int32} {S : ZSt} (hS : zSh S) (hD : zStD S) (hJ : jCore S) : zC m_L_envy [.ref 75, .int v1, .int v2, .int v3, .ref 161] S (zTwoR S m_M_envy [.int v1, .int v2, .int v3] (zAns4 S)) := by
  have hwb : ∀ j, j < 24 → wF S j ≤ 99 := fun j hj => (hJ.wM j hj).2
  by_cases hp : zPty v1 v2
  case neg =>
    exact y_envy (res := .inl (2, 1)) hS hD hJ (fun r kk e => by cases e; omega) (b_N_envy hS (w_N_isNoParty hS (fun h9 => absurd h9 hp) (fun _ => b_N_envy_4 hS (b_N_refuseIf hS ⟨fun h9 => absurd h9 (by decide), fun _ => ⟨zinl rfl, zinl rfl, zOb_bad (r := 2) (kk := 1) hS⟩⟩)))) (fun T hT tT => b_M_envy hT (w_M_mayShare hT (fun h9 => absurd h9 hp) (fun _ => b_M_envy_7 hT ⟨fun _ => w_M_may0 (S := zsI T 130 0 (nI 0)) hT rfl (by omega) (by omega) (b_M_envy_19 hT ⟨fun h9 => absurd (by decide) h9, fun _ => zMo_bad (r := 2) (kk := 1) hT⟩), fun h9 => absurd (by decide) h9⟩)))
  have hp' := hp
  obtain ⟨F, B, f1, f2, b1, b2, rfl, rfl⟩ := hp
  have hp4 := pow4 f2
  by_cases hx : ∃ x, x < 4 ^ F ∧ v3 = nI x ∧ isSh F B x = true
  · obtain ⟨x, hx, rfl, hs⟩ := hx
    have eqx : ∀ y, y < 4 ^ F → nI x = nI y → y = x := fun y hy e => (nEq (by omega) (by omega) e).symm
    refine y_envy (res := .inr (envi (th F x (wF S)) B)) hS hD hJ (fun r kk e => by cases e) (b_N_envy hS (w_N_isNoParty hS (fun _ => b_N_envy_4 hS (b_N_refuseIf hS ⟨fun _ => b_N_envy_5 hS (w_Sh_divide hS hJ.wO (by omega) b2 (fun y hy e hb S1 j1 t1 => ?_) (fun h9 => absurd (h9 x hx rfl) (by rw [hs]; decide))), fun h9 => absurd (by decide) h9⟩)) (fun h9 => absurd hp' h9))) (fun T hT tT => b_M_envy hT (w_M_mayShare hT (fun _ => b_M_envy_7 hT ⟨fun h9 => absurd h9 (by decide), fun _ => w_M_isSharing hT f2 b2 (fun y hy e hb => b_M_envy_12 hT ⟨fun h9 => absurd h9 (by decide), fun _ => w_M_may1 (S := zsI T 130 0 (nI 0)) hT rfl (b_M_envy_19 hT ⟨fun _ => w_M_envious (S := zsI T 130 0 (nI 0)) hT (hJ.wM.T tT) (by omega) f2 b2 (b_M_envy_27 hT (zMo_ok hT)), fun h9 => absurd (by decide) h9⟩)⟩) (fun h9 => absurd (h9 x hx rfl) (by rw [hs]; decide))⟩) (fun h9 => absurd hp' h9)))
    obtain rfl := eqx y hy e
    have hS1 := j1.sh hS
    exact b_N_envy_15 hS1 ⟨fun _ => b_N_refuseIf hS1 ⟨fun _ => b_N_envy_20 hS1 (w_Sh_firstEnvious hS1 (thO_of f2 b2 hwb t1) b2 (b_N_envy_24 hS1 ⟨rfl, j1.hO rfl, hS1⟩)), fun h9 => absurd (by decide) h9⟩, fun h9 => absurd (by decide) h9⟩
  · have hx' : ∀ x, x < 4 ^ F → v3 = nI x → isSh F B x = false := fun x h1 h2 => by
      cases hb : isSh F B x with
      | false => rfl
      | true => exact absurd ⟨x, h1, h2, hb⟩ hx
    refine y_envy (res := .inl (2, 1)) hS hD hJ (fun r kk e => by cases e; omega) (b_N_envy hS (w_N_isNoParty hS (fun _ => b_N_envy_4 hS (b_N_refuseIf hS ⟨fun _ => b_N_envy_5 hS (w_Sh_divide hS hJ.wO (by omega) b2 (fun y hy e hb => absurd (hx' y hy e) (by rw [hb]; decide)) (fun _ S1 j1 => ?_)), fun h9 => absurd (by decide) h9⟩)) (fun h9 => absurd hp' h9))) (fun T hT tT => b_M_envy hT (w_M_mayShare hT (fun _ => b_M_envy_7 hT ⟨fun h9 => absurd h9 (by decide), fun _ => w_M_isSharing hT f2 b2 (fun y hy e hb => absurd (hx' y hy e) (by rw [hb]; decide)) (fun _ => b_M_envy_12 hT ⟨fun _ => w_M_may0 (S := zsI T 130 0 (nI 0)) hT rfl (by omega) (by omega) (b_M_envy_19 hT ⟨fun h9 => absurd (by decide) h9, fun _ => zMo_bad (r := 2) (kk := 1) hT⟩), fun h9 => absurd (by decide) h9⟩)⟩) (fun h9 => absurd hp' h9)))
    have hS1 := j1.sh hS
    exact b_N_envy_15 hS1 ⟨fun h9 => absurd (by decide) h9, fun _ => b_N_refuseIf hS1 ⟨fun h9 => absurd h9 (by decide), fun _ => ⟨zinl rfl, zinl rfl, zOb_badH (r := 2) (kk := 1) (j1.hO rfl) hS1⟩⟩⟩
/-! spreads -/
def mmF (t : Nat → Nat → Nat) : Nat → Nat → Nat → Nat → Nat × Nat
  | 0, _, lo, hi => (lo, hi)
  | f + 1, k, lo, hi => mmF t f (k + 1) (if t k k < lo then t k k else lo) (if hi < t k k then t k k else hi)
theorem mmF_b {t : Nat → Nat → Nat} {M : Nat} : ∀ (f k lo hi : Nat), (∀ j, k ≤ j → j < k + f → t j j ≤ M) → lo ≤ hi → hi ≤ M → (mmF t f k lo hi).1 ≤ (mmF t f k lo hi).2 ∧ (mmF t f k lo hi).2 ≤ M
  | 0, k, lo, hi, h, h1, h2 => ⟨h1, h2⟩
  | f + 1, k, lo, hi, h, h1, h2 => by
    have h3 := h k (by omega) (by omega)
    refine mmF_b f (k + 1) _ _ (fun j a b => h j (by omega) (by omega)) ?_ ?_
    · split <;> split <;> omega
    · split <;> omega
def spr (t : Nat → Nat → Nat) (B : Nat) : Nat := (mmF t (B - 1) 1 (t 0 0) (t 0 0)).2 - (mmF t (B - 1) 1 (t 0 0) (t 0 0)).1
theorem nI_mn {a b : Nat} (ha : a < 2 ^ 31) (hb : b < 2 ^ 31) : (if nI a < nI b then nI a else nI b) = nI (if a < b then a else b) := by
  by_cases h : a < b
  · rw [if_pos h, if_pos (nI_lt h hb)]
  · rw [if_neg h, if_neg (nI_nlt (by omega) ha)]
theorem nI_mx {a b : Nat} (ha : a < 2 ^ 31) (hb : b < 2 ^ 31) : (if nI a < nI b then nI b else nI a) = nI (if a < b then b else a) := by
  by_cases h : a < b
  · rw [if_pos h, if_pos (nI_lt h hb)]
  · rw [if_neg h, if_neg (nI_nlt (by omega) ha)]
theorem w_Sh_spread_12 {B : Nat} {t : Nat → Nat → Nat} {S : ZSt} {Q : ZOut → ZSt → Prop} (hS : zSh S) (ht : thO S B t) (hB : B ≤ 4) : ∀ (f k lo hi : Nat) (u5 : Option Value), f + k = B → lo ≤ hi → hi ≤ 1000 → Q (.inl (some (.int (nI ((mmF t f k lo hi).2 - (mmF t f k lo hi).1))))) S → zW 1 m_Sh_spread 12 [some (.ref 123), some (.int (nI B)), some (.int (nI hi)), some (.int (nI lo)), some (.int (nI k)), u5] [] S Q
  | 0, k, lo, hi, u5, hk, h1, h2, hQ => by
    refine b_Sh_spread_12 hS ⟨fun _ => ?_, fun h9 => absurd (nI_le (by omega) (by omega)) h9⟩
    rw [pk_sub h1]
    exact hQ
  | f + 1, k, lo, hi, u5, hk, h1, h2, hQ => by
    obtain ⟨e1, b1⟩ := ht k (by omega) k (by omega)
    refine b_Sh_spread_12 hS ⟨fun h9 => absurd h9 (nI_ge (by omega) (by omega)), fun _ => ⟨fun h9 => absurd h9 (nI_ge (by omega) (by omega)), fun _ => ?_⟩⟩
    rw [pk_mul, nI_add, nI_add, zcl9 (by omega), show k * 4 + k = 4 * k + k by omega, e1, nI_mx (by omega) (by omega), nI_mn (by omega) (by omega)]
    exact ⟨zin (by omega) (by omega), w_Sh_spread_12 hS ht hB f (k + 1) _ _ _ (by omega) (by split <;> split <;> omega) (by split <;> omega) hQ⟩
theorem w_Sh_spread {B : Nat} {t : Nat → Nat → Nat} {S : ZSt} {Q : ZOut → ZSt → Prop} (hS : zSh S) (ht : thO S B t) (hB : 1 ≤ B ∧ B ≤ 4) (hQ : Q (.inl (some (.int (nI (spr t B))))) S) : zC m_Sh_spread [.ref 123, .int (nI B)] S Q := by
  obtain ⟨e1, b1⟩ := ht 0 (by omega) 0 (by omega)
  refine b_Sh_spread hS ?_
  rw [show zI S 124 0 = nI (t 0 0) from e1]
  exact ⟨zinl rfl, zinl rfl, w_Sh_spread_12 hS ht hB.2 (B - 1) 1 (t 0 0) (t 0 0) none (by omega) (Nat.le_refl _) b1 hQ⟩
theorem w_M_even_41 {F B x : Nat} {w : Nat → Nat} {x3 : Int32} {S : ZSt} {Q : ZOut → ZSt → Prop} (hS : zSh S) (hw : jFi (zI S 132) w) (hx : x < 4 ^ F) (hF : F ≤ 6) (hB : B ≤ 4) : ∀ (f k lo hi : Nat) (u8 : Option Value), f + k = B → lo ≤ hi → hi ≤ 1000 → (∀ u5 u6 u7 u8 s, s = nI ((mmF (th F x w) f k lo hi).2 - (mmF (th F x w) f k lo hi).1) → ((x3 = - nI 1 → zW 3 m_M_even 17 [some (.ref 130), some (.int (nI F)), some (.int (nI B)), some (.int s), some (.int (nI (x + 1))), u5, u6, u7, u8] [] S Q) ∧ (¬ (x3 = - nI 1) → ((x3 ≤ s → zW 3 m_M_even 17 [some (.ref 130), some (.int (nI F)), some (.int (nI B)), some (.int x3), some (.int (nI (x + 1))), u5, u6, u7, u8] [] S Q) ∧ (¬ (x3 ≤ s) → zW 3 m_M_even 17 [some (.ref 130), some (.int (nI F)), some (.int (nI B)), some (.int s), some (.int (nI (x + 1))), u5, u6, u7, u8] [] S Q))))) → zW 3 m_M_even 41 [some (.ref 130), some (.int (nI F)), some (.int (nI B)), some (.int x3), some (.int (nI x)), some (.int (nI lo)), some (.int (nI hi)), some (.int (nI k)), u8] [] S Q
  | 0, k, lo, hi, u8, hk, h1, h2, hQ => by
    have hp := pow4 hF
    refine b_M_even_41 hS ⟨fun _ => ?_, fun h9 => absurd (nI_le (by omega) (by omega)) h9⟩
    rw [pk_sub h1, nI_add]
    exact hQ _ _ _ _ _ rfl
  | f + 1, k, lo, hi, u8, hk, h1, h2, hQ => by
    have hp := pow4 hF
    have b1 := th_le (x := x) (b := k) (o := k) hF (by omega) (fun j hj => (hw j hj).2)
    have e : mmF (th F x w) (f + 1) k lo hi = mmF (th F x w) f (k + 1) (if th F x w k k < lo then th F x w k k else lo) (if hi < th F x w k k then th F x w k k else hi) := rfl
    rw [e] at hQ
    refine b_M_even_41 hS ⟨fun h9 => absurd h9 (nI_ge (by omega) (by omega)), fun _ => w_M_thinks hS hw (by omega) hF (by omega) (by omega) (b_M_even_50 hS ?_)⟩
    rw [nI_add]
    refine ⟨fun h9 => ?_, fun h9 => ?_⟩
    · have h8 : lo ≤ th F x w k k := (nI_leI (by omega) (by omega)).mp h9
      rw [if_neg (by omega)] at hQ
      refine ⟨fun h7 => ?_, fun h7 => ?_⟩
      · have h6 : th F x w k k ≤ hi := (nI_leI (by omega) (by omega)).mp h7
        rw [if_neg (by omega)] at hQ
        exact w_M_even_41 hS hw hx hF hB f (k + 1) lo hi _ (by omega) h1 h2 hQ
      · have h6 : hi < th F x w k k := Nat.not_le.mp (fun h5 => h7 (nI_le h5 (by omega)))
        rw [if_pos h6] at hQ
        exact w_M_even_41 hS hw hx hF hB f (k + 1) lo _ _ (by omega) (by omega) (by omega) hQ
    · have h8 : th F x w k k < lo := Nat.not_le.mp (fun h5 => h9 (nI_le h5 (by omega)))
      rw [if_pos h8, if_neg (by omega)] at hQ
      refine ⟨fun h7 => ?_, fun h7 => absurd (nI_le (by omega) (by omega)) h7⟩
      exact w_M_even_41 hS hw hx hF hB f (k + 1) _ hi _ (by omega) (by omega) h2 hQ
def mnO (o : Option Nat) (s : Nat) : Option Nat := match o with
  | none => some s
  | some v => some (if s < v then s else v)
/-- the least spread so far -/
def evF (F B : Nat) (w : Nat → Nat) : Nat → Nat → Option Nat → Option Nat
  | 0, _, o => o
  | f + 1, x, o => evF F B w f (x + 1) (if isSh F B x = true then mnO o (spr (th F x w) B) else o)
def lvO (F : Nat) (o : Option Nat) : Int32 := match o with
  | none => nI (F * 99)
  | some v => nI v
def lvM (o : Option Nat) : Int32 := match o with
  | none => - nI 1
  | some v => nI v
theorem spr_le {F B x : Nat} {w : Nat → Nat} (hF : F ≤ 6) (hB : 1 ≤ B ∧ B ≤ 4) (hw : ∀ j, j < 24 → w j ≤ 99) : spr (th F x w) B ≤ F * 99 := by
  have h0 := th_le (x := x) (b := 0) (o := 0) hF (by omega) hw
  have := mmF_b (t := th F x w) (M := 99 * F) (B - 1) 1 (th F x w 0 0) (th F x w 0 0) (fun j a b => th_le hF (by omega) hw) (Nat.le_refl _) h0
  unfold spr
  omega
theorem w_Sh_lS_9 {F B : Nat} {w : Nat → Nat} (hF : 1 ≤ F ∧ F ≤ 6) (hB : 1 ≤ B ∧ B ≤ 4) {Q : ZOut → ZSt → Prop} : ∀ (f x : Nat) (o : Option Nat) {S : ZSt}, zSh S → jFo (zI S 99) w → f + x = 4 ^ F → (∀ v, o = some v → v ≤ F * 99) → (∀ S', zJ [124] S S' → Q (.inl (some (.int (lvO F (evF F B w f x o))))) S') → zW 3 m_Sh_leastSpread 9 [some (.ref 123), some (.ref 99), some (.int (nI F)), some (.int (nI B)), some (.int (lvO F o)), some (.int (nI (4 ^ F))), some (.int (nI x))] [] S Q
  | 0, x, o, S, hS, hw, hx, ho, hQ => by
    have hp := pow4 hF.2
    exact b_Sh_leastSpread_9 hS ⟨fun _ => hQ S zJ.rf, fun h9 => absurd (nI_le (by omega) (by omega)) h9⟩
  | f + 1, x, o, S, hS, hw, hx, ho, hQ => by
    have hp := pow4 hF.2
    have hwb : ∀ j, j < 24 → w j ≤ 99 := fun j hj => (hw j hj).2
    have eqx : ∀ y, y < 4 ^ F → nI x = nI y → y = x := fun y hy e => (nEq (by omega) (by omega) e).symm
    have e : evF F B w (f + 1) x o = evF F B w f (x + 1) (if isSh F B x = true then mnO o (spr (th F x w) B) else o) := rfl
    rw [e] at hQ
    refine b_Sh_leastSpread_9 hS ⟨fun h9 => absurd h9 (nI_ge (by omega) (by omega)), fun _ => w_Sh_divide hS hw hF hB.2 (fun y hy e1 hb S1 j1 t1 => ?_) (fun h9 S1 j1 => ?_)⟩
    · obtain rfl := eqx y hy e1
      have hS1 := j1.sh hS
      have hs := spr_le (x := y) hF.2 hB hwb
      rw [if_pos hb] at hQ
      refine b_Sh_leastSpread_18 hS1 ⟨fun h9 => absurd h9 (by decide), fun _ => w_Sh_spread hS1 (thO_of hF.2 hB.2 hwb t1) hB (b_Sh_leastSpread_23 hS1 ?_)⟩
      rw [nI_add]
      have hw1 : jFo (zI S1 99) w := by rw [j1.2 99 rfl]; exact hw
      cases o with
      | none =>
        have e2 : (if nI (spr (th F y w) B) < lvO F none then nI (spr (th F y w) B) else lvO F none) = lvO F (some (spr (th F y w) B)) := by
          show (if nI (spr (th F y w) B) < nI (F * 99) then nI (spr (th F y w) B) else nI (F * 99)) = nI (spr (th F y w) B)
          rw [nI_mn (by omega) (by omega)]
          by_cases h : spr (th F y w) B < F * 99
          · rw [if_pos h]
          · rw [if_neg h, show F * 99 = spr (th F y w) B by omega]
        rw [e2]
        exact w_Sh_lS_9 hF hB f (y + 1) _ hS1 hw1 (by omega) (fun v hv => by cases hv; exact hs) (fun S' j' => hQ S' (j1.tr j'))
      | some v =>
        have hv := ho v rfl
        have e2 : (if nI (spr (th F y w) B) < lvO F (some v) then nI (spr (th F y w) B) else lvO F (some v)) = lvO F (some (if spr (th F y w) B < v then spr (th F y w) B else v)) := nI_mn (by omega) (by omega)
        rw [e2]
        exact w_Sh_lS_9 hF hB f (y + 1) _ hS1 hw1 (by omega) (fun u hu => by cases hu; split <;> omega) (fun S' j' => hQ S' (j1.tr j'))
    · have hS1 := j1.sh hS
      rw [if_neg (by rw [h9 x (by omega) rfl]; decide)] at hQ
      refine b_Sh_leastSpread_18 hS1 ⟨fun _ => ?_, fun h9 => absurd (by decide) h9⟩
      rw [nI_add]
      exact w_Sh_lS_9 hF hB f (x + 1) o hS1 (by rw [j1.2 99 rfl]; exact hw) (by omega) ho (fun S' j' => hQ S' (j1.tr j'))
theorem w_M_even_17 {F B : Nat} {w : Nat → Nat} (hF : 1 ≤ F ∧ F ≤ 6) (hB : 1 ≤ B ∧ B ≤ 4) {S : ZSt} {Q : ZOut → ZSt → Prop} (hS : zSh S) (hw : jFi (zI S 132) w) : ∀ (f x : Nat) (o : Option Nat) (u5 u6 u7 u8 : Option Value), f + x = 4 ^ F → (∀ v, o = some v → v ≤ F * 99) → Q (.inl (some (.int (lvM (evF F B w f x o))))) S → zW 3 m_M_even 17 [some (.ref 130), some (.int (nI F)), some (.int (nI B)), some (.int (lvM o)), some (.int (nI x)), u5, u6, u7, u8] [] S Q
  | 0, x, o, u5, u6, u7, u8, hx, ho, hQ => by
    have hp := pow4 hF.2
    refine b_M_even_17 hS ?_
    rw [zshl4 hF.2]
    exact ⟨fun _ => hQ, fun h9 => absurd (nI_le (by omega) (by omega)) h9⟩
  | f + 1, x, o, u5, u6, u7, u8, hx, ho, hQ => by
    have hp := pow4 hF.2
    have hwb : ∀ j, j < 24 → w j ≤ 99 := fun j hj => (hw j hj).2
    have eqx : ∀ y, y < 4 ^ F → nI x = nI y → y = x := fun y hy e => (nEq (by omega) (by omega) e).symm
    have e : evF F B w (f + 1) x o = evF F B w f (x + 1) (if isSh F B x = true then mnO o (spr (th F x w) B) else o) := rfl
    rw [e] at hQ
    refine b_M_even_17 hS ?_
    rw [zshl4 hF.2]
    refine ⟨fun h9 => absurd h9 (nI_ge (by omega) (by omega)), fun _ => w_M_isSharing hS hF.2 hB.2 (fun y hy e1 hb => ?_) (fun h9 => ?_)⟩
    · obtain rfl := eqx y hy e1
      have hs := spr_le (x := y) hF.2 hB hwb
      have b0 := th_le (x := y) (b := 0) (o := 0) hF.2 (by omega) hwb
      rw [if_pos hb] at hQ
      refine b_M_even_28 hS ⟨fun _ => w_M_thinks hS hw (by omega) hF.2 (by omega) (by omega) (b_M_even_36 hS (w_M_even_41 hS hw hy hF.2 hB.2 (B - 1) 1 _ _ _ (by omega) (Nat.le_refl _) (by omega) (fun u5 u6 u7 u8 s es => ?_))), fun h9 => absurd (by decide) h9⟩
      have es' : s = nI (spr (th F y w) B) := es
      subst es'
      cases o with
      | none =>
        exact ⟨fun _ => w_M_even_17 hF hB hS hw f (y + 1) (some (spr (th F y w) B)) _ _ _ _ (by omega) (fun v hv => by cases hv; exact hs) hQ, fun h9 => absurd rfl h9⟩
      | some v =>
        have hv := ho v rfl
        refine ⟨fun h9 => absurd h9 (nI_m1 (by omega)), fun _ => ⟨fun h9 => ?_, fun h9 => ?_⟩⟩
        · have h8 : v ≤ spr (th F y w) B := (nI_leI (by omega) (by omega)).mp h9
          have hq2 : Q (.inl (some (.int (lvM (evF F B w f (y + 1) (some v)))))) S := by
            have := hQ
            rw [show mnO (some v) (spr (th F y w) B) = some v from congrArg some (if_neg (by omega))] at this
            exact this
          exact w_M_even_17 hF hB hS hw f (y + 1) (some v) _ _ _ _ (by omega) ho hq2
        · have h8 : spr (th F y w) B < v := Nat.not_le.mp (fun h5 => h9 (nI_le h5 (by omega)))
          have hq2 : Q (.inl (some (.int (lvM (evF F B w f (y + 1) (some (spr (th F y w) B))))))) S := by
            have := hQ
            rw [show mnO (some v) (spr (th F y w) B) = some (spr (th F y w) B) from congrArg some (if_pos h8)] at this
            exact this
          exact w_M_even_17 hF hB hS hw f (y + 1) (some (spr (th F y w) B)) _ _ _ _ (by omega) (fun v hv => by cases hv; exact hs) hq2
    · rw [if_neg (by rw [h9 x (by omega) rfl]; decide)] at hQ
      refine b_M_even_28 hS ⟨fun h9 => absurd (by decide) h9, fun _ => ?_⟩
      rw [nI_add]
      exact w_M_even_17 hF hB hS hw f (x + 1) o _ _ _ _ (by omega) ho hQ
theorem evF_some {F B : Nat} {w : Nat → Nat} : ∀ (f x : Nat) (v : Nat), ∃ u, evF F B w f x (some v) = some u
  | 0, x, v => ⟨v, rfl⟩
  | f + 1, x, v => by
    show ∃ u, evF F B w f (x + 1) (if isSh F B x = true then some (if spr (th F x w) B < v then spr (th F x w) B else v) else some v) = some u
    split
    · exact evF_some f (x + 1) _
    · exact evF_some f (x + 1) v
theorem evF_0 {F B : Nat} {w : Nat → Nat} (hB : 1 ≤ B) : ∃ u, evF F B w (4 ^ F) 0 none = some u := by
  have hp : 0 < 4 ^ F := Nat.pow_pos (by omega)
  obtain ⟨n, hn⟩ : ∃ n, 4 ^ F = n + 1 := ⟨4 ^ F - 1, by omega⟩
  rw [hn]
  show ∃ u, evF F B w n 1 (if isSh F B 0 = true then some (spr (th F 0 w) B) else none) = some u
  rw [if_pos (show isSh F B 0 = true from decide_eq_true (fun f hf => by
    unfold own
    rw [Nat.zero_div]
    show 0 % 4 < B
    omega))]
  exact evF_some n 1 _
theorem p_even {v1 v2 : Int32} {S : ZSt} (hS : zSh S) (hD : zStD S) (hJ : jCore S) : zC m_L_even [.ref 75, .int v1, .int v2, .ref 161] S (zTwoR S m_M_even [.int v1, .int v2] (zAns4 S)) := by
  by_cases hp : zPty v1 v2
  case neg =>
    exact y_even (res := .inl (2, 1)) hS hD hJ (fun r kk e => by cases e; omega) (b_N_even hS (w_N_isNoParty hS (fun h9 => absurd h9 hp) (fun _ => b_N_even_4 hS (b_N_refuseIf hS ⟨fun h9 => absurd h9 (by decide), fun _ => ⟨zinl rfl, zinl rfl, zOb_bad (r := 2) (kk := 1) hS⟩⟩)))) (fun T hT tT => b_M_even hT (w_M_mayShare hT (fun h9 => absurd h9 hp) (fun _ => b_M_even_7 hT (w_M_may0 (S := zsI T 130 0 (nI 0)) hT rfl (by omega) (by omega) (b_M_even_10 hT ⟨fun h9 => absurd (by decide) h9, fun _ => zMo_bad (r := 2) (kk := 1) hT⟩)))))
  have hp' := hp
  obtain ⟨F, B, f1, f2, b1, b2, rfl, rfl⟩ := hp
  have hp4 := pow4 f2
  obtain ⟨u, eu⟩ := evF_0 (F := F) (B := B) (w := wF S) b1
  refine y_even (res := .inr (nI u)) hS hD hJ (fun r kk e => by cases e) (b_N_even hS (w_N_isNoParty hS (fun _ => b_N_even_4 hS (b_N_refuseIf hS ⟨fun _ => b_N_even_5 hS (b_Sh_leastSpread hS (w_Sh_sharingsOf f2 hS (b_Sh_leastSpread_6 hS ?_))), fun h9 => absurd (by decide) h9⟩)) (fun h9 => absurd hp' h9))) (fun T hT tT => b_M_even hT (w_M_mayShare hT (fun _ => b_M_even_7 hT (w_M_may1 (S := zsI T 130 0 (nI 0)) hT rfl (b_M_even_10 hT ⟨fun _ => w_M_even_17 (S := zsI T 130 0 (nI 0)) ⟨f1, f2⟩ ⟨b1, b2⟩ hT (hJ.wM.T tT) (4 ^ F) 0 none _ _ _ _ (by omega) (fun v hv => by cases hv) (by rw [eu]; exact zMo_ok hT), fun h9 => absurd (by decide) h9⟩))) (fun h9 => absurd hp' h9)))
  rw [pk_mul]
  refine w_Sh_lS_9 ⟨f1, f2⟩ ⟨b1, b2⟩ (4 ^ F) 0 none hS hJ.wO (by omega) (fun v hv => by cases hv) (fun S1 j1 => b_N_even_13 (j1.sh hS) ?_)
  rw [eu]
  exact ⟨rfl, j1.hO rfl, j1.sh hS⟩
