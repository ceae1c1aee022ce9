/-! share: alike -/
def frB (F B x : Nat) (w : Nat → Nat) : Bool := isSh F B x && decide (envi (th F x w) B = - nI 1)
def tgt (t : Nat → Nat → Nat) (B : Nat) : Nat := sumF (fun b => t b b) B
def btO (o : Option (Nat × Nat)) (x v : Nat) : Option (Nat × Nat) := match o with
  | none => some (x, v)
  | some (y, m) => if m < v then some (x, v) else some (y, m)
def shF (F B : Nat) (w : Nat → Nat) : Nat → Nat → Option (Nat × Nat) → Nat → Option (Nat × Nat) × Nat
  | 0, _, o, c => (o, c)
  | f + 1, x, o, c => if frB F B x w = true then shF F B w f (x + 1) (btO o x (tgt (th F x w) B)) (c + 1) else shF F B w f (x + 1) o c
def bx (o : Option (Nat × Nat)) : Int32 := match o with
  | none => - nI 1
  | some (y, _) => nI y
def bw (o : Option (Nat × Nat)) : Int32 := match o with
  | none => - nI 1
  | some (_, m) => nI m
def bm (o : Option (Nat × Nat)) : Int32 := match o with
  | none => nI 0
  | some (_, m) => nI m
def okB (o : Option (Nat × Nat)) : Prop := ∀ y m, o = some (y, m) → y < 5000 ∧ m ≤ 10000
theorem okB_bt {o : Option (Nat × Nat)} {x v : Nat} (h : okB o) (hx : x < 5000) (hv : v ≤ 10000) : okB (btO o x v) := by
  intro y m e
  unfold btO at e
  split at e
  · cases e
    exact ⟨hx, hv⟩
  · split at e
    · cases e
      exact ⟨hx, hv⟩
    · cases e
      exact h _ _ rfl
theorem tgt_le {F B x : Nat} {w : Nat → Nat} (hF : F ≤ 6) (hB : B ≤ 4) (hw : ∀ j, j < 24 → w j ≤ 99) : tgt (th F x w) B ≤ 10000 := by
  have : tgt (th F x w) B ≤ 594 * B := sumF_le B (fun b hb => by
    have := th_le (x := x) (b := b) (o := b) hF (by omega) hw
    show th F x w b b ≤ 594
    omega)
  omega
theorem w_Sh_oT_4 {B : Nat} {t : Nat → Nat → Nat} {S : ZSt} {Q : ZOut → ZSt → Prop} (hS : zSh S) (ht : thO S B t) (hB : B ≤ 4) (hQ : Q (.inl (some (.int (nI (tgt t B))))) S) : ∀ (f k : Nat), f + k = B → zW 1 m_Sh_ownTogether 4 [some (.ref 123), some (.int (nI B)), some (.int (nI (sumF (fun b => t b b) k))), some (.int (nI k))] [] S Q
  | 0, k, hk => by
    obtain rfl : k = B := by omega
    exact b_Sh_ownTogether_4 hS ⟨fun _ => hQ, fun h9 => absurd (nI_le (Nat.le_refl _) (by omega)) h9⟩
  | f + 1, k, hk => by
    refine b_Sh_ownTogether_4 hS ⟨fun h9 => absurd h9 (nI_ge (by omega) (by omega)), fun _ => ⟨fun h9 => absurd h9 (nI_ge (by omega) (by omega)), fun _ => ?_⟩⟩
    rw [pk_mul, nI_add, nI_add, zcl9 (by omega), show k * 4 + k = 4 * k + k by omega, (ht k (by omega) k (by omega)).1, nI_add]
    exact ⟨zin (by omega) (by omega), w_Sh_oT_4 hS ht hB hQ f (k + 1) (by omega)⟩
theorem w_Sh_ownTogether {B : Nat} {t : Nat → Nat → Nat} {S : ZSt} {Q : ZOut → ZSt → Prop} (hS : zSh S) (ht : thO S B t) (hB : B ≤ 4) (hQ : Q (.inl (some (.int (nI (tgt t B))))) S) : zC m_Sh_ownTogether [.ref 123, .int (nI B)] S Q := b_Sh_ownTogether hS (w_Sh_oT_4 hS ht hB hQ B 0 (by omega))
theorem bt_n {o : Option (Nat × Nat)} {x v : Nat} (ho : okB o) (hv : v ≤ 10000) (h : nI v ≤ bw o) : btO o x v = o := by
  cases o with
  | none =>
    exfalso
    have t1 : (bw none).toInt = -1 := ztn (k := 1) rfl
    rw [zle9, t1, nI_toInt (by omega)] at h
    omega
  | some p =>
    obtain ⟨y, m⟩ := p
    have hm := (ho y m rfl).2
    have h8 : v ≤ m := (nI_leI (by omega) (by omega)).mp h
    exact if_neg (by omega)
theorem bt_y {o : Option (Nat × Nat)} {x v : Nat} (ho : okB o) (hv : v ≤ 10000) (h : ¬ nI v ≤ bw o) : btO o x v = some (x, v) := by
  cases o with
  | none => rfl
  | some p =>
    obtain ⟨y, m⟩ := p
    have hm := (ho y m rfl).2
    exact if_pos (Nat.not_le.mp (fun h5 => h (nI_le h5 (by omega))))
theorem w_Sh_sF_14 {F B : Nat} {w : Nat → Nat} (hF : 1 ≤ F ∧ F ≤ 6) (hB : 1 ≤ B ∧ B ≤ 4) {Q : ZOut → ZSt → Prop} : ∀ (f x : Nat) (o : Option (Nat × Nat)) (c : Nat) {u6 : Option Value} {S : ZSt}, zSh S → jFo (zI S 99) w → f + x = 4 ^ F → okB o → zI S 123 0 = bx o → zI S 123 1 = bw o → zI S 123 2 = nI c → (∀ S', zJ [123, 124] S S' → zI S' 123 0 = bx (shF F B w f x o c).1 → zI S' 123 1 = bw (shF F B w f x o c).1 → zI S' 123 2 = nI (shF F B w f x o c).2 → Q (.inl none) S') → zW 3 m_Sh_seekFair 14 [some (.ref 123), some (.ref 99), some (.int (nI F)), some (.int (nI B)), some (.int (nI (4 ^ F))), some (.int (nI x)), u6] [] S Q
  | 0, x, o, c, u6, S, hS, hw, hx, ho, e0, e1, e2, hQ => by
    have hp := pow4 hF.2
    exact b_Sh_seekFair_14 hS ⟨fun _ => hQ S zJ.rf e0 e1 e2, fun h9 => absurd (nI_le (by omega) (by omega)) h9⟩
  | f + 1, x, o, c, u6, S, hS, hw, hx, ho, e0, e1, e2, hQ => by
    have hp := pow4 hF.2
    have hwb : ∀ j, j < 24 → w j ≤ 99 := fun j hj => (hw j hj).2
    have eqx : ∀ y, y < 4 ^ F → nI x = nI y → y = x := fun y hy e => (nEq (by omega) (by omega) e).symm
    have e : shF F B w (f + 1) x o c = if frB F B x w = true then shF F B w f (x + 1) (btO o x (tgt (th F x w) B)) (c + 1) else shF F B w f (x + 1) o c := rfl
    rw [e] at hQ
    refine b_Sh_seekFair_14 hS ⟨fun h9 => absurd h9 (nI_ge (by omega) (by omega)), fun _ => w_Sh_divide hS hw hF hB.2 (fun y hy e1' hb S1 j1 t1 => ?_) (fun h9 S1 j1 => ?_)⟩
    · obtain rfl := eqx y hy e1'
      have hS1 := j1.sh hS
      have h1 : zJ [123, 124] S S1 := zJ3 j1 (zsub_of rfl)
      have hw1 : jFo (zI S1 99) w := by rw [j1.2 99 rfl]; exact hw
      have to := thO_of hF.2 hB.2 hwb t1
      have c123 : zI S1 123 = zI S 123 := j1.2 123 rfl
      refine b_Sh_seekFair_23 hS1 ⟨fun h9 => absurd h9 (by decide), fun _ => w_Sh_firstEnvious hS1 to hB.2 (b_Sh_seekFair_27 hS1 ⟨fun h9 => ?_, fun h9 => ?_⟩)⟩
      · rw [if_neg (show ¬ frB F B y w = true by unfold frB; rw [hb, decide_eq_false h9]; decide)] at hQ
        rw [nI_add]
        exact w_Sh_sF_14 hF hB f (y + 1) o c hS1 hw1 (by omega) ho (by rw [c123]; exact e0) (by rw [c123]; exact e1) (by rw [c123]; exact e2) (fun S' j' => hQ S' (h1.tr j'))
      · have hv := tgt_le (x := y) hF.2 hB.2 hwb
        rw [if_pos (show frB F B y w = true by unfold frB; rw [hb, decide_eq_true (Classical.not_not.mp h9)]; rfl)] at hQ
        rw [c123, e2, nI_add]
        have hto : thO (zsI S1 123 2 (nI (c + 1))) B (th F y w) := to
        refine w_Sh_ownTogether (S := zsI S1 123 2 (nI (c + 1))) hS1 hto hB.2 (b_Sh_seekFair_38 (S := zsI S1 123 2 (nI (c + 1))) hS1 ?_)
        rw [nI_add, zI_o (by omega), c123, e1]
        have j2 : zJ [123, 124] S (zsI S1 123 2 (nI (c + 1))) := h1.I rfl
        refine ⟨fun h8 => ?_, fun h8 => ?_⟩
        · rw [bt_n ho hv h8] at hQ
          exact w_Sh_sF_14 hF hB f (y + 1) o (c + 1) (S := zsI S1 123 2 (nI (c + 1))) hS1 hw1 (by omega) ho (by rw [zI_o (by omega), c123]; exact e0) (by rw [zI_o (by omega), c123]; exact e1) zI_s (fun S' j' => hQ S' (j2.tr j'))
        · rw [bt_y ho hv h8] at hQ
          have j3 : zJ [123, 124] S (zsI (zsI (zsI S1 123 2 (nI (c + 1))) 123 0 (nI y)) 123 1 (nI (tgt (th F y w) B))) := (j2.I rfl).I rfl
          exact w_Sh_sF_14 hF hB f (y + 1) (some (y, tgt (th F y w) B)) (c + 1) (S := zsI (zsI (zsI S1 123 2 (nI (c + 1))) 123 0 (nI y)) 123 1 (nI (tgt (th F y w) B))) hS1 hw1 (by omega) (fun a b e => by cases e; exact ⟨by omega, hv⟩) (by rw [zI_o (by omega), zI_s]; rfl) (by rw [zI_s]; rfl) (by rw [zI_o (by omega), zI_o (by omega), zI_s]) (fun S' j' => hQ S' (j3.tr j'))
    · have hS1 := j1.sh hS
      have c123 : zI S1 123 = zI S 123 := j1.2 123 rfl
      rw [if_neg (show ¬ frB F B x w = true by unfold frB; rw [h9 x (by omega) rfl, Bool.false_and]; decide)] at hQ
      refine b_Sh_seekFair_23 hS1 ⟨fun _ => ?_, fun h9 => absurd (by decide) h9⟩
      rw [nI_add]
      exact w_Sh_sF_14 hF hB f (x + 1) o c hS1 (by rw [j1.2 99 rfl]; exact hw) (by omega) ho (by rw [c123]; exact e0) (by rw [c123]; exact e1) (by rw [c123]; exact e2) (fun S' j' => hQ S' ((zJ3 j1 (zsub_of rfl)).tr j'))
theorem w_M_share_55 {F B x c : Nat} {w : Nat → Nat} {o : Option (Nat × Nat)} {x3 : Int32} {S : ZSt} {Q : ZOut → ZSt → Prop} (hS : zSh S) (hw : jFi (zI S 132) w) (hx : x < 4 ^ F) (hF : F ≤ 6) (hB : B ≤ 4) (ho : okB o) (h : ∀ u8 u9, zW 4 m_M_share 30 [some (.ref 130), some (.int (nI F)), some (.int (nI B)), some (.int x3), some (.int (bx (btO o x (tgt (th F x w) B)))), some (.int (bm (btO o x (tgt (th F x w) B)))), some (.int (nI c)), some (.int (nI (x + 1))), u8, u9] [] S Q) : ∀ (f k : Nat), f + k = B → zW 4 m_M_share 55 [some (.ref 130), some (.int (nI F)), some (.int (nI B)), some (.int x3), some (.int (bx o)), some (.int (bm o)), some (.int (nI c)), some (.int (nI x)), some (.int (nI (sumF (fun b => th F x w b b) k))), some (.int (nI k))] [] S Q
  | 0, k, hk => by
    have hp := pow4 hF
    have hv := tgt_le (x := x) hF hB (fun j hj => (hw j hj).2)
    obtain rfl : k = B := by omega
    refine b_M_share_55 hS ⟨fun _ => ?_, fun h9 => absurd (nI_le (Nat.le_refl _) (by omega)) h9⟩
    rw [nI_add]
    cases o with
    | none => exact ⟨fun _ => h _ _, fun h9 => absurd rfl h9⟩
    | some p =>
      obtain ⟨y, m⟩ := p
      obtain ⟨b1, b2⟩ := ho y m rfl
      refine ⟨fun h9 => absurd h9 (nI_m1 (by omega)), fun _ => ⟨fun h9 => ?_, fun h9 => ?_⟩⟩
      · have h8 : m < tgt (th F x w) k := (nI_ltI (by omega) (show tgt (th F x w) k < 2 ^ 31 by omega)).mp h9
        rw [show btO (some (y, m)) x (tgt (th F x w) k) = some (x, tgt (th F x w) k) from if_pos h8] at h
        exact h _ _
      · have h8 : ¬ m < tgt (th F x w) k := fun h5 => h9 (nI_lt h5 (show tgt (th F x w) k < 2 ^ 31 by omega))
        rw [show btO (some (y, m)) x (tgt (th F x w) k) = some (y, m) from if_neg h8] at h
        exact h _ _
  | f + 1, k, hk => by
    have hp := pow4 hF
    refine b_M_share_55 hS ⟨fun h9 => absurd h9 (nI_ge (by omega) (by omega)), fun _ => w_M_thinks hS hw (by omega) hF (by omega) (by omega) (b_M_share_65 hS ?_)⟩
    rw [nI_add, nI_add]
    exact w_M_share_55 hS hw hx hF hB ho h f (k + 1) (by omega)
def shA (what : Nat) (r : Option (Nat × Nat) × Nat) : Int32 := if what = 2 then nI r.2 else if what = 0 then bx r.1 else bw r.1
theorem w_M_share_30 {F B what : Nat} {w : Nat → Nat} (hF : 1 ≤ F ∧ F ≤ 6) (hB : 1 ≤ B ∧ B ≤ 4) (hwh : what ≤ 2) {S : ZSt} {Q : ZOut → ZSt → Prop} (hS : zSh S) (hw : jFi (zI S 132) w) : ∀ (f x : Nat) (o : Option (Nat × Nat)) (c : Nat) (u8 u9 : Option Value), f + x = 4 ^ F → okB o → Q (.inl (some (.int (shA what (shF F B w f x o c))))) S → zW 4 m_M_share 30 [some (.ref 130), some (.int (nI F)), some (.int (nI B)), some (.int (nI what)), some (.int (bx o)), some (.int (bm o)), some (.int (nI c)), some (.int (nI x)), u8, u9] [] S Q
  | 0, x, o, c, u8, u9, hx, ho, hQ => by
    have hp := pow4 hF.2
    refine b_M_share_30 hS ?_
    rw [zshl4 hF.2]
    refine ⟨fun _ => ⟨fun h2 => ?_, fun h2 => ?_⟩, fun h9 => absurd (nI_le (by omega) (by omega)) h9⟩
    · have n2 : what ≠ 2 := fun e => h2 (by rw [e])
      rw [show shA what (shF F B w 0 x o c) = if what = 0 then bx o else bw o from if_neg n2] at hQ
      cases o with
      | none =>
        refine ⟨fun h9 => absurd rfl h9, fun _ => ?_⟩
        by_cases h0 : what = 0
        · rw [if_pos h0] at hQ
          exact hQ
        · rw [if_neg h0] at hQ
          exact hQ
      | some p =>
        obtain ⟨y, m⟩ := p
        obtain ⟨b1, b2⟩ := ho y m rfl
        refine ⟨fun _ => ⟨fun h0 => ?_, fun h0 => ?_⟩, fun h9 => absurd (nI_m1 (by omega)) h9⟩
        · rw [if_neg (fun e => h0 (by rw [e]; rfl))] at hQ
          exact hQ
        · rw [if_pos ((nI_z (by omega)).mp (Classical.not_not.mp h0))] at hQ
          exact hQ
    · rw [show shA what (shF F B w 0 x o c) = nI c from if_pos (nEq (by omega) (by omega) (Classical.not_not.mp h2))] at hQ
      exact hQ
  | f + 1, x, o, c, u8, u9, hx, ho, hQ => by
    have hp := pow4 hF.2
    have hwb : ∀ j, j < 24 → w j ≤ 99 := fun j hj => (hw j hj).2
    have eqx : ∀ y, y < 4 ^ F → nI x = nI y → y = x := fun y hy e => (nEq (by omega) (by omega) e).symm
    have e : shF F B w (f + 1) x o c = if frB F B x w = true then shF F B w f (x + 1) (btO o x (tgt (th F x w) B)) (c + 1) else shF F B w f (x + 1) o c := rfl
    rw [e] at hQ
    refine b_M_share_30 hS ?_
    rw [zshl4 hF.2]
    refine ⟨fun h9 => absurd h9 (nI_ge (by omega) (by omega)), fun _ => w_M_isSharing hS hF.2 hB.2 (fun y hy e1 hb => ?_) (fun h9 => ?_)⟩
    · obtain rfl := eqx y hy e1
      refine b_M_share_41 hS ⟨fun h9 => absurd h9 (by decide), fun _ => w_M_envious hS hw (by omega) hF.2 hB.2 (b_M_share_47 hS ⟨fun h9 => ?_, fun h9 => ?_⟩)⟩
      · have hv := tgt_le (x := y) hF.2 hB.2 hwb
        rw [if_pos (show frB F B y w = true by unfold frB; rw [hb, decide_eq_true h9]; rfl)] at hQ
        rw [nI_add]
        exact w_M_share_55 hS hw hy hF.2 hB.2 ho (fun u8 u9 => w_M_share_30 hF hB hwh hS hw f (y + 1) _ (c + 1) u8 u9 (by omega) (okB_bt ho (by omega) hv) hQ) B 0 (by omega)
      · rw [if_neg (show ¬ frB F B y w = true by unfold frB; rw [hb, decide_eq_false h9]; decide)] at hQ
        rw [nI_add]
        exact w_M_share_30 hF hB hwh hS hw f (y + 1) o c _ _ (by omega) ho hQ
    · rw [if_neg (show ¬ frB F B x w = true by unfold frB; rw [h9 x (by omega) rfl, Bool.false_and]; decide)] at hQ
      refine b_M_share_41 hS ⟨fun _ => ?_, fun h9 => absurd (by decide) h9⟩
      rw [nI_add]
      exact w_M_share_30 hF hB hwh hS hw f (x + 1) o c _ _ (by omega) ho hQ
theorem p_share {v1 v2 v3 : Int32} {S : ZSt} (hS : zSh S) (hD : zStD S) (hJ : jCore S) : zC m_L_share [.ref 75, .int v1, .int v2, .int v3, .ref 161] S (zTwoR S m_M_share [.int v1, .int v2, .int v3] (zAns4 S)) := by
  by_cases hp : zPty v1 v2
  case neg =>
    exact y_share (res := .inl (2, 1)) hS hD hJ (fun r kk e => by cases e; omega) (b_N_share hS (w_N_isNoParty hS (fun h9 => absurd h9 hp) (fun _ => b_N_share_4 hS ⟨fun _ => b_N_refuseIf hS ⟨fun h9 => absurd h9 (by decide), fun _ => ⟨zinl rfl, zinl rfl, zOb_bad (r := 2) (kk := 1) hS⟩⟩, fun h9 => absurd (by decide) h9⟩))) (fun T hT tT => b_M_share hT (w_M_mayShare hT (fun h9 => absurd h9 hp) (fun _ => b_M_share_7 hT ⟨fun _ => w_M_may0 (S := zsI T 130 0 (nI 0)) hT rfl (by omega) (by omega) (b_M_share_19 hT ⟨fun h9 => absurd (by decide) h9, fun _ => zMo_bad (r := 2) (kk := 1) hT⟩), fun h9 => absurd (by decide) h9⟩)))
  have hp' := hp
  obtain ⟨F, B, f1, f2, b1, b2, rfl, rfl⟩ := hp
  have hp4 := pow4 f2
  have OA : ∀ {Q : ZOut → ZSt → Prop}, zC m_N_isNot [.int v3, .int (nI 0), .int (nI 2)] S (zback m_N_share 12 8 [some (.ref 75), some (.int (nI F)), some (.int (nI B)), some (.int v3)] [.ref 75] (fun i1 l1 s1 S1 => zW 4 m_N_share i1 l1 s1 S1 Q) (fun x S1 => Q (.inr x) S1)) → zC m_N_share [.ref 75, .int (nI F), .int (nI B), .int v3] S Q := fun {Q} g => b_N_share hS (w_N_isNoParty hS (fun _ => b_N_share_4 hS ⟨fun h9 => absurd (by decide) h9, fun _ => g⟩) (fun h9 => absurd hp' h9))
  have MA : ∀ {T : ZSt} {Q : ZOut → ZSt → Prop}, zSh T → zC m_M_within [.int v3, .int (nI 0), .int (nI 2)] (zsI T 130 0 (nI 0)) (zback m_M_share 17 11 [some (.ref 130), some (.int (nI F)), some (.int (nI B)), some (.int v3), none, none, none, none, none, none] [.ref 130] (fun i1 l1 s1 S1 => zW 4 m_M_share i1 l1 s1 S1 Q) (fun x S1 => Q (.inr x) S1)) → zC m_M_share [.ref 130, .int (nI F), .int (nI B), .int v3] T Q := fun {T Q} hT g => b_M_share hT (w_M_mayShare hT (fun _ => b_M_share_7 hT ⟨fun h9 => absurd h9 (by decide), fun _ => g⟩) (fun h9 => absurd hp' h9))
  by_cases hq : zIn v3 0 2
  case neg =>
    exact y_share (res := .inl (2, 1)) hS hD hJ (fun r kk e => by cases e; omega) (OA (w_N_isNotR rfl hS (fun h9 => absurd h9 hq) (fun _ => b_N_share_9 hS ⟨fun h9 => absurd h9 (by decide), fun _ => b_N_refuseIf hS ⟨fun h9 => absurd h9 (by decide), fun _ => ⟨zinl rfl, zinl rfl, zOb_bad (r := 2) (kk := 1) hS⟩⟩⟩))) (fun T hT tT => MA hT (w_M_withinR rfl hT (fun h9 => absurd h9 hq) (fun _ => b_M_share_12 hT ⟨fun _ => w_M_may0 (S := zsI T 130 0 (nI 0)) hT rfl (by omega) (by omega) (b_M_share_19 hT ⟨fun h9 => absurd (by decide) h9, fun _ => zMo_bad (r := 2) (kk := 1) hT⟩), fun h9 => absurd (by decide) h9⟩)))
  have hq' := hq
  obtain ⟨what, -, hwh, rfl⟩ := hq
  refine y_share (res := .inr (shA what (shF F B (wF S) (4 ^ F) 0 none 0))) hS hD hJ (fun r kk e => by cases e) (OA (w_N_isNotR rfl hS (fun _ => b_N_share_9 hS ⟨fun _ => b_N_refuseIf hS ⟨fun _ => b_N_share_14 hS (b_Sh_seekFair hS (w_Sh_sharingsOf (S := zsI (zsI (zsI S 123 0 (- nI 1)) 123 1 (- nI 1)) 123 2 (nI 0)) f2 hS (b_Sh_seekFair_11 hS (w_Sh_sF_14 ⟨f1, f2⟩ ⟨b1, b2⟩ (4 ^ F) 0 none 0 (S := zsI (zsI (zsI S 123 0 (- nI 1)) 123 1 (- nI 1)) 123 2 (nI 0)) hS hJ.wO (by omega) (fun y m e => by cases e) (by rw [zI_o (by omega), zI_o (by omega), zI_s]; rfl) (by rw [zI_o (by omega), zI_s]; rfl) zI_s (fun S1 j1 a0 a1 a2 => b_N_share_22 (j1.sh hS) ?_))))), fun h9 => absurd (by decide) h9⟩, fun h9 => absurd (by decide) h9⟩) (fun h9 => absurd hq' h9))) (fun T hT tT => MA hT (w_M_withinR rfl hT (fun _ => b_M_share_12 hT ⟨fun h9 => absurd h9 (by decide), fun _ => w_M_may1 (S := zsI T 130 0 (nI 0)) hT rfl (b_M_share_19 hT ⟨fun _ => w_M_share_30 ⟨f1, f2⟩ ⟨b1, b2⟩ hwh (S := zsI T 130 0 (nI 0)) hT (hJ.wM.T tT) (4 ^ F) 0 none 0 _ _ (by omega) (fun y m e => by cases e) (zMo_ok hT), fun h9 => absurd (by decide) h9⟩)⟩) (fun h9 => absurd hq' h9)))
  have j0 : zJ [123, 124] S (zsI (zsI (zsI S 123 0 (- nI 1)) 123 1 (- nI 1)) 123 2 (nI 0)) := ((zJ.rf.I rfl).I rfl).I rfl
  have jx := j0.tr j1
  rw [a0, a1, a2]
  refine ⟨fun h2 => ⟨fun h0 => ⟨?_, jx.hO rfl, jx.sh hS⟩, fun h0 => ⟨?_, jx.hO rfl, jx.sh hS⟩⟩, fun h2 => ⟨?_, jx.hO rfl, jx.sh hS⟩⟩
  · unfold shA
    rw [if_neg (fun e => h2 (by rw [e])), if_neg (fun e => h0 (by rw [e]; rfl))]
  · unfold shA
    rw [if_neg (fun e => h2 (by rw [e])), if_pos ((nI_z (by omega)).mp (Classical.not_not.mp h0))]
  · unfold shA
    rw [if_pos (nEq (by omega) (by omega) (Classical.not_not.mp h2))]
