/-! why: both alike -/
def whI (ap : Nat → Nat → Bool) (b : Nat) : Nat → Nat → Option Nat
  | 0, _ => none
  | f + 1, a => if ap a b = true then whI ap b f (a + 1) else some (10 * a + b)
def whB (ap : Nat → Nat → Bool) : Nat → Nat → Int32
  | 0, _ => - nI 1
  | f + 1, b => match whI ap b b 0 with
    | some v => nI v
    | none => whB ap f (b + 1)
theorem w_N_w21 {wd mv pr acts n b : Nat} {Q : ZOut → ZSt → Prop} (hw : wd ≤ 3) (hm : mv ≤ 1) (hp : pr ≤ 1) (hac : 1 ≤ acts ∧ acts ≤ 3) (hb : b ≤ 6) : ∀ (f a : Nat) {S : ZSt}, zSh S → zI S 93 3 = nI wd → zI S 93 4 = nI pr → zI S 93 5 = nI mv → f + a = b → (∀ v, whI (fun a b => apLen wd mv pr a b acts 1) b f a = some v → ∀ S', zJ lTr S S' → Q (.inl (some (.int (nI v)))) S') → (whI (fun a b => apLen wd mv pr a b acts 1) b f a = none → ∀ S' u4, zJ lTr S S' → zW 7 m_N_why 16 [some (.ref 75), some (.int (nI acts)), some (.int (nI n)), some (.int (nI (b + 1))), u4] [] S' Q) → zW 7 m_N_why 21 [some (.ref 75), some (.int (nI acts)), some (.int (nI n)), some (.int (nI b)), some (.int (nI a))] [] S Q
  | 0, a, S, hS, v3, v4, v5, hf, h1, h2 => by
    refine b_N_why_21 hS ⟨fun _ => ?_, fun h9 => absurd (nI_le (show b ≤ a by omega) (by omega)) h9⟩
    rw [nI_add]
    exact h2 rfl S _ zJ.rf
  | f + 1, a, S, hS, v3, v4, v5, hf, h1, h2 => by
    refine b_N_why_21 hS ⟨fun h9 => absurd h9 (nI_ge (by omega) (by omega)), fun _ => w_Tr_tellApart hw hm hp (by omega) (by omega) hac hS v3 v4 v5 (fun S1 j1 => b_N_why_33 (j1.sh hS) ?_)⟩
    rw [pk_mul, nI_add, nI_add]
    have e : whI (fun a b => apLen wd mv pr a b acts 1) b (f + 1) a = if apLen wd mv pr a b acts 1 = true then whI (fun a b => apLen wd mv pr a b acts 1) b f (a + 1) else some (10 * a + b) := rfl
    rw [e] at h1 h2
    cases hc : apLen wd mv pr a b acts 1 with
    | true =>
      rw [hc, if_pos rfl] at h1 h2
      exact ⟨fun _ => w_N_w21 hw hm hp hac hb f (a + 1) (j1.sh hS) (by rw [j1.2 93 rfl]; exact v3) (by rw [j1.2 93 rfl]; exact v4) (by rw [j1.2 93 rfl]; exact v5) (by omega) (fun v h S' j' => h1 v h S' (j1.tr j')) (fun h S' u4 j' => h2 h S' u4 (j1.tr j')), fun h9 => absurd (by decide) h9⟩
    | false =>
      rw [hc, if_neg (by decide)] at h1
      exact ⟨fun h9 => absurd rfl h9, fun _ => h1 _ rfl S1 j1⟩
theorem w_N_w16 {wd mv pr acts n : Nat} {Q : ZOut → ZSt → Prop} (hw : wd ≤ 3) (hm : mv ≤ 1) (hp : pr ≤ 1) (hac : 1 ≤ acts ∧ acts ≤ 3) (hn : n ≤ 6) : ∀ (f b : Nat) {S : ZSt} {u4 : Option Value}, zSh S → zI S 93 3 = nI wd → zI S 93 4 = nI pr → zI S 93 5 = nI mv → f + b = n + 1 → (∀ S', zJ lTr S S' → Q (.inl (some (.int (whB (fun a b => apLen wd mv pr a b acts 1) f b)))) S') → zW 7 m_N_why 16 [some (.ref 75), some (.int (nI acts)), some (.int (nI n)), some (.int (nI b)), u4] [] S Q
  | 0, b, S, u4, hS, v3, v4, v5, hf, hQ => b_N_why_16 hS ⟨fun _ => hQ S zJ.rf, fun h9 => absurd (nI_lt (show n < b by omega) (by omega)) h9⟩
  | f + 1, b, S, u4, hS, v3, v4, v5, hf, hQ => by
    have e : whB (fun a b => apLen wd mv pr a b acts 1) (f + 1) b = match whI (fun a b => apLen wd mv pr a b acts 1) b b 0 with
      | some v => nI v
      | none => whB (fun a b => apLen wd mv pr a b acts 1) f (b + 1) := rfl
    rw [e] at hQ
    refine b_N_why_16 hS ⟨fun h9 => absurd h9 (nI_nlt (by omega) (by omega)), fun _ => w_N_w21 hw hm hp hac (by omega) b 0 hS v3 v4 v5 (by omega) (fun v h S' j' => ?_) (fun h S' u4 j' => ?_)⟩
    · rw [h] at hQ
      exact hQ S' j'
    · rw [h] at hQ
      exact w_N_w16 hw hm hp hac hn f (b + 1) (j'.sh hS) (by rw [j'.2 93 rfl]; exact v3) (by rw [j'.2 93 rfl]; exact v4) (by rw [j'.2 93 rfl]; exact v5) (by omega) (fun S2 j2 => hQ S2 (j'.tr j2))
theorem w_M_w36 {wd mv pr acts n b : Nat} {Q : ZOut → ZSt → Prop} (hw : wd ≤ 3) (hm : mv ≤ 1) (hp : pr ≤ 1) (hac : 1 ≤ acts ∧ acts ≤ 3) (hb : b ≤ 6) : ∀ (f a : Nat) {S : ZSt}, zSh S → zI S 132 3 = nI wd → zI S 132 4 = nI pr → zI S 132 5 = nI mv → zI S 130 34 = - nI 1 → f + a = b → (∀ v, whI (fun a b => apLen wd mv pr a b acts 1) b f a = some v → ∀ S', zJM S S' → Q (.inl (some (.int (nI v)))) S') → (whI (fun a b => apLen wd mv pr a b acts 1) b f a = none → ∀ S' u4, zJM S S' → zW 5 m_M_why 31 [some (.ref 130), some (.int (nI acts)), some (.int (nI n)), some (.int (nI (b + 1))), u4] [] S' Q) → zW 5 m_M_why 36 [some (.ref 130), some (.int (nI acts)), some (.int (nI n)), some (.int (nI b)), some (.int (nI a))] [] S Q
  | 0, a, S, hS, v3, v4, v5, h34, hf, h1, h2 => by
    refine b_M_why_36 hS ⟨fun _ => ?_, fun h9 => absurd (nI_le (show b ≤ a by omega) (by omega)) h9⟩
    rw [nI_add]
    exact h2 rfl S _ zJM.rf
  | f + 1, a, S, hS, v3, v4, v5, h34, hf, h1, h2 => by
    refine b_M_why_36 hS ⟨fun h9 => absurd h9 (nI_ge (by omega) (by omega)), fun _ => w_M_isApart hw hm hp (by omega) (by omega) hac hS v3 v4 v5 h34 (fun S1 j1 => b_M_why_44 (j1.sh hS) ?_)⟩
    rw [pk_mul, nI_add, nI_add]
    have e : whI (fun a b => apLen wd mv pr a b acts 1) b (f + 1) a = if apLen wd mv pr a b acts 1 = true then whI (fun a b => apLen wd mv pr a b acts 1) b f (a + 1) else some (10 * a + b) := rfl
    rw [e] at h1 h2
    cases hc : apLen wd mv pr a b acts 1 with
    | true =>
      rw [hc, if_pos rfl] at h1 h2
      exact ⟨fun _ => w_M_w36 hw hm hp hac hb f (a + 1) (j1.sh hS) (by rw [j1.1.2 132 rfl]; exact v3) (by rw [j1.1.2 132 rfl]; exact v4) (by rw [j1.1.2 132 rfl]; exact v5) (by rw [j1.2.1.1 34 rfl]; exact h34) (by omega) (fun v h S' j' => h1 v h S' (j1.tr j')) (fun h S' u4 j' => h2 h S' u4 (j1.tr j')), fun h9 => absurd (by decide) h9⟩
    | false =>
      rw [hc, if_neg (by decide)] at h1
      exact ⟨fun h9 => absurd rfl h9, fun _ => h1 _ rfl S1 j1⟩
theorem w_M_w31 {wd mv pr acts n : Nat} {Q : ZOut → ZSt → Prop} (hw : wd ≤ 3) (hm : mv ≤ 1) (hp : pr ≤ 1) (hac : 1 ≤ acts ∧ acts ≤ 3) (hn : n ≤ 6) : ∀ (f b : Nat) {S : ZSt} {u4 : Option Value}, zSh S → zI S 132 3 = nI wd → zI S 132 4 = nI pr → zI S 132 5 = nI mv → zI S 130 34 = - nI 1 → f + b = n + 1 → (∀ S', zJM S S' → Q (.inl (some (.int (whB (fun a b => apLen wd mv pr a b acts 1) f b)))) S') → zW 5 m_M_why 31 [some (.ref 130), some (.int (nI acts)), some (.int (nI n)), some (.int (nI b)), u4] [] S Q
  | 0, b, S, u4, hS, v3, v4, v5, h34, hf, hQ => b_M_why_31 hS ⟨fun _ => hQ S zJM.rf, fun h9 => absurd (nI_lt (show n < b by omega) (by omega)) h9⟩
  | f + 1, b, S, u4, hS, v3, v4, v5, h34, hf, hQ => by
    have e : whB (fun a b => apLen wd mv pr a b acts 1) (f + 1) b = match whI (fun a b => apLen wd mv pr a b acts 1) b b 0 with
      | some v => nI v
      | none => whB (fun a b => apLen wd mv pr a b acts 1) f (b + 1) := rfl
    rw [e] at hQ
    refine b_M_why_31 hS ⟨fun h9 => absurd h9 (nI_nlt (by omega) (by omega)), fun _ => w_M_w36 hw hm hp hac (by omega) b 0 hS v3 v4 v5 h34 (by omega) (fun v h S' j' => ?_) (fun h S' u4 j' => ?_)⟩
    · rw [h] at hQ
      exact hQ S' j'
    · rw [h] at hQ
      exact w_M_w31 hw hm hp hac hn f (b + 1) (j'.sh hS) (by rw [j'.1.2 132 rfl]; exact v3) (by rw [j'.1.2 132 rfl]; exact v4) (by rw [j'.1.2 132 rfl]; exact v5) (by rw [j'.2.1.1 34 rfl]; exact h34) (by omega) (fun S2 j2 => hQ S2 (j'.tr j2))
theorem p_why {v1 v2 : Int32} {S : ZSt} (hS : zSh S) (hD : zStD S) (hJ : jCore S) (h34 : zI S 130 34 = - nI 1) : zC m_L_why [.ref 75, .int v1, .int v2, .ref 161] S (zTwoR S m_M_why [.int v1, .int v2] (zAns4 S)) := by
  obtain ⟨x0, x1, x2, x3, x4, x5, hf, hg⟩ := hJ.1.1.vl
  have vT : ∀ {T : ZSt}, zAt S T → zVl (zI (zsI T 130 0 (nI 0)) 132) x0 x1 x2 x3 x4 x5 := fun {T} tT => by
    show zVl (zI T 132) x0 x1 x2 x3 x4 x5
    rw [tT.at rfl]
    exact hf
  have g2 := hg.2.2.1
  have MB : ∀ {T : ZSt} (hT : zSh T), zC m_M_may [.ref 130, .int (nI 0), .int (nI 1), .int (nI 2)] (zsI T 130 0 (nI 0)) (zback m_M_why 42 25 [some (.ref 130), some (.int v1), some (.int v2), none, none] [] (fun i1 l1 s1 S1 => zW 5 m_M_why i1 l1 s1 S1 (zMo T (.inl (2, 1)))) (fun x S1 => zMo T (.inl (2, 1)) (.inr x) S1)) := fun {T} hT => w_M_may0 (S := zsI T 130 0 (nI 0)) hT rfl (by omega) (by omega) (b_M_why_26 hT ⟨fun h9 => absurd (by decide) h9, fun _ => zMo_bad (r := 2) (kk := 1) hT⟩)
  have OB : zC m_N_refuseIf [.ref 75, .int (nI 1)] S (zback m_N_why 24 13 [some (.ref 75), some (.int v1), some (.int v2), none, none] [] (fun i1 l1 s1 S1 => zW 7 m_N_why i1 l1 s1 S1 (zOb S (.inl (2, 1)))) (fun x S1 => zOb S (.inl (2, 1)) (.inr x) S1)) := b_N_refuseIf hS ⟨fun h9 => absurd h9 (by decide), fun _ => ⟨zinl rfl, zinl rfl, zOb_bad (r := 2) (kk := 1) hS⟩⟩
  by_cases hl : zLn v1 x2
  case neg =>
    refine y_why (res := .inl (2, 1)) hS hD hJ (fun r kk e => by cases e; omega) (b_N_why hS (w_N_isNoLength hS g2.1 g2.2.2 (fun h9 => absurd h9 hl) (fun _ => b_N_why_4 hS ⟨fun _ => OB, fun h9 => absurd (by decide) h9⟩))) (fun T hT tT => b_M_why hT (w_M_withinR rfl hT (fun ⟨k, a1, a2, e⟩ => b_M_why_8 hT ⟨fun h9 => absurd h9 (by decide), fun _ => ⟨zinl rfl, fun _ => MB hT, fun h9 => absurd ?_ hl⟩⟩) (fun _ => b_M_why_8 hT ⟨fun _ => MB hT, fun h9 => absurd (by decide) h9⟩)))
    rw [(vT tT).2.2.1.1, e] at h9
    exact ⟨k, a1, a2, Nat.not_lt.mp (fun h8 => h9 (nI_lt h8 (by omega))), e⟩
  have hl' := hl
  obtain ⟨acts, c1, c2, c3, rfl⟩ := hl
  have OA : ∀ {Q : ZOut → ZSt → Prop}, zC m_N_isNot [.int v2, .int (nI 1), .int (nI 6)] S (zback m_N_why 13 8 [some (.ref 75), some (.int (nI acts)), some (.int v2), none, none] [.ref 75] (fun i1 l1 s1 S1 => zW 7 m_N_why i1 l1 s1 S1 Q) (fun x S1 => Q (.inr x) S1)) → zC m_N_why [.ref 75, .int (nI acts), .int v2] S Q := fun {Q} h => b_N_why hS (w_N_isNoLength hS g2.1 g2.2.2 (fun _ => b_N_why_4 hS ⟨fun h9 => absurd (by decide) h9, fun _ => h⟩) (fun h9 => absurd hl' h9))
  have MA : ∀ {T : ZSt} {Q : ZOut → ZSt → Prop}, zSh T → zAt S T → zC m_M_within [.int v2, .int (nI 1), .int (nI 6)] (zsI T 130 0 (nI 0)) (zback m_M_why 29 18 [some (.ref 130), some (.int (nI acts)), some (.int v2), none, none] [.ref 130] (fun i1 l1 s1 S1 => zW 5 m_M_why i1 l1 s1 S1 Q) (fun x S1 => Q (.inr x) S1)) → zC m_M_why [.ref 130, .int (nI acts), .int v2] T Q := fun {T Q} hT tT h => by
    refine b_M_why hT (w_M_withinR rfl hT (fun _ => b_M_why_8 hT ⟨fun h9 => absurd h9 (by decide), fun _ => ⟨zinl rfl, fun h9 => ?_, fun _ => h⟩⟩) (fun h9 => absurd ⟨acts, c1, c2, rfl⟩ h9))
    rw [(vT tT).2.2.1.1] at h9
    exact absurd h9 (nI_nlt (by omega) (by omega))
  by_cases ha : zIn v2 1 6
  case neg =>
    exact y_why (res := .inl (2, 1)) hS hD hJ (fun r kk e => by cases e; omega) (OA (w_N_isNotR rfl hS (fun h9 => absurd h9 ha) (fun _ => b_N_why_9 hS ⟨fun h9 => absurd h9 (by decide), fun _ => OB⟩))) (fun T hT tT => MA hT tT (w_M_withinR rfl hT (fun h9 => absurd h9 ha) (fun _ => b_M_why_19 hT ⟨fun _ => MB hT, fun h9 => absurd (by decide) h9⟩)))
  have ha' := ha
  obtain ⟨n, a1, a2, rfl⟩ := ha
  refine y_why (res := .inr (whB (fun a b => apLen x3 x5 x4 a b acts 1) n 1)) hS hD hJ (fun r kk e => by cases e) (OA (w_N_isNotR rfl hS (fun _ => b_N_why_9 hS ⟨fun _ => b_N_refuseIf hS ⟨fun _ => b_N_why_14 hS (w_N_w16 hg.2.2.2.1.2 hg.2.2.2.2.2.2 hg.2.2.2.2.1.2 ⟨c1, c2⟩ a2 n 1 hS hg.2.2.2.1.1 hg.2.2.2.2.1.1 hg.2.2.2.2.2.1 (by omega) (fun S1 j1 => ⟨rfl, j1.hO rfl, j1.sh hS⟩)), fun h9 => absurd (by decide) h9⟩, fun h9 => absurd (by decide) h9⟩) (fun h9 => absurd ha' h9))) (fun T hT tT => MA hT tT (w_M_withinR rfl hT (fun _ => b_M_why_19 hT ⟨fun h9 => absurd h9 (by decide), fun _ => w_M_may1 (S := zsI T 130 0 (nI 0)) hT rfl (b_M_why_26 hT ⟨fun _ => ?_, fun h9 => absurd (by decide) h9⟩)⟩) (fun h9 => absurd ha' h9)))
  have hv := vT tT
  exact w_M_w31 hv.2.2.2.1.2 hv.2.2.2.2.2.2 hv.2.2.2.2.1.2 ⟨c1, c2⟩ a2 n 1 (S := zsI T 130 0 (nI 0)) hT hv.2.2.2.1.1 hv.2.2.2.2.1.1 hv.2.2.2.2.2.1 (by rw [zI_o (by omega), tT.at rfl]; exact h34) (by omega) (fun S1 m1 => ⟨rfl, zH0.tr (m1.1.hM rfl), m1.sh hT, m1.1.l161, zKM0.tr m1.2.1, m1.2.2.trans zI_s⟩)
