/-! can: both alike -/
def zLn (v : Int32) (x2 : Nat) : Prop := ∃ k : Nat, 1 ≤ k ∧ k ≤ 3 ∧ k ≤ x2 ∧ v = nI k
theorem w_N_isNoLength {v : Int32} {x2 : Nat} {S : ZSt} {Q : ZOut → ZSt → Prop} (hS : zSh S) (h2 : zI S 93 2 = nI x2) (hx : x2 ≤ 24) (ok : zLn v x2 → Q (.inl (some (.int (nI 0)))) S) (bad : ¬ zLn v x2 → Q (.inl (some (.int (nI 1)))) S) : zC m_N_isNoLength [.ref 75, .int v] S Q := by
  refine b_N_isNoLength hS (w_N_isNotR rfl hS (fun ⟨k, a1, a2, e⟩ => b_N_isNoLength_4 hS ⟨fun h9 => absurd (by decide) h9, fun _ => ?_⟩) (fun h9 => b_N_isNoLength_4 hS ⟨fun _ => ⟨rfl, bad (fun ⟨k, b1, b2, b3, b4⟩ => h9 ⟨k, b1, b2, b4⟩)⟩, fun h8 => absurd (by decide) h8⟩))
  subst e
  rw [h2]
  refine ⟨zinl rfl, fun h9 => ⟨rfl, ok ⟨k, a1, a2, ?_, rfl⟩⟩, fun h9 => ⟨rfl, bad (fun ⟨k', b1, b2, b3, b4⟩ => ?_)⟩⟩
  · exact Nat.not_lt.mp (fun h8 => nI_ge h8 (by omega) h9)
  · have e : k = k' := nEq (by omega) (by omega) b4
    exact h9 (nI_le (by omega) (by omega))
theorem w_Tr_tellApart {wd mv pr a b acts : Nat} {S : ZSt} {Q : ZOut → ZSt → Prop} (hw : wd ≤ 3) (hm : mv ≤ 1) (hp : pr ≤ 1) (ha : a ≤ 9) (hb : b ≤ 9) (hac : 1 ≤ acts ∧ acts ≤ 3) (hS : zSh S) (v3 : zI S 93 3 = nI wd) (v4 : zI S 93 4 = nI pr) (v5 : zI S 93 5 = nI mv) (hQ : ∀ S', zJ lTr S S' → Q (.inl (some (.int (zBo (apLen wd mv pr a b acts 1))))) S') : zC m_Tr_tellApart [.ref 110, .int (nI acts), .int (nI a), .int (nI b), .ref 93] S Q := b_Tr_tellApart hS (w_Tr_tA2 hw hm hp ha hb hac.2 acts 1 hS v3 v4 v5 (by omega) (by omega) hQ)
theorem w_M_isApart {wd mv pr a b acts : Nat} {S : ZSt} {Q : ZOut → ZSt → Prop} (hw : wd ≤ 3) (hm : mv ≤ 1) (hp : pr ≤ 1) (ha : a ≤ 9) (hb : b ≤ 9) (hac : 1 ≤ acts ∧ acts ≤ 3) (hS : zSh S) (v3 : zI S 132 3 = nI wd) (v4 : zI S 132 4 = nI pr) (v5 : zI S 132 5 = nI mv) (h34 : zI S 130 34 = - nI 1) (hQ : ∀ S', zJM S S' → Q (.inl (some (.int (zBo (apLen wd mv pr a b acts 1))))) S') : zC m_M_isApart [.ref 130, .int (nI acts), .int (nI a), .int (nI b)] S Q := b_M_isApart hS (w_M_iA2 hw hm hp ha hb hac.2 acts 1 hS v3 v4 v5 h34 (by omega) (by omega) hQ)
theorem p_can {v1 v2 v3 : Int32} {S : ZSt} (hS : zSh S) (hD : zStD S) (hJ : jCore S) (h34 : zI S 130 34 = - nI 1) : zC m_L_can [.ref 75, .int v1, .int v2, .int v3, .ref 161] S (zTwoR S m_M_can [.int v1, .int v2, .int v3] (zAns4B S)) := by
  obtain ⟨x0, x1, x2, x3, x4, x5, hf, hg⟩ := hJ.1.1.vl
  have vT : ∀ {T : ZSt}, zAt S T → zVl (zI (zsI T 130 0 (nI 0)) 132) x0 x1 x2 x3 x4 x5 := fun {T} tT => by
    show zVl (zI T 132) x0 x1 x2 x3 x4 x5
    rw [tT.at rfl]
    exact hf
  have g2 := hg.2.2.1
  have MB : ∀ {T : ZSt} (hT : zSh T), zC m_M_may [.ref 130, .int (nI 0), .int (nI 1), .int (nI 2)] (zsI T 130 0 (nI 0)) (zback m_M_can 52 30 [some (.ref 130), some (.int v1), some (.int v2), some (.int v3)] [] (fun i1 l1 s1 S1 => zW 5 m_M_can i1 l1 s1 S1 (zMo T (.inl (2, 1)))) (fun x S1 => zMo T (.inl (2, 1)) (.inr x) S1)) := fun {T} hT => w_M_may0 (S := zsI T 130 0 (nI 0)) hT rfl (by omega) (by omega) (b_M_can_31 hT ⟨fun h9 => absurd (by decide) h9, fun _ => ⟨rfl, zMo_bad (r := 2) (kk := 1) hT⟩⟩)
  have OB : zC m_N_refuseIf [.ref 75, .int (nI 1)] S (zback m_N_can 34 18 [some (.ref 75), some (.int v1), some (.int v2), some (.int v3)] [] (fun i1 l1 s1 S1 => zW 7 m_N_can i1 l1 s1 S1 (zOb S (.inl (2, 1)))) (fun x S1 => zOb S (.inl (2, 1)) (.inr x) S1)) := b_N_refuseIf hS ⟨fun h9 => absurd h9 (by decide), fun _ => ⟨zinl rfl, zinl rfl, zOb_bad (r := 2) (kk := 1) hS⟩⟩
  by_cases hl : zLn v1 x2
  case neg =>
    refine y_can (res := .inl (2, 1)) hS hD hJ (fun r kk e => by cases e; omega) (fun v e => by cases e) (b_N_can hS (w_N_isNoLength hS g2.1 g2.2.2 (fun h9 => absurd h9 hl) (fun _ => b_N_can_4 hS ⟨fun _ => OB, fun h9 => absurd (by decide) h9⟩))) (fun T hT tT => b_M_can hT (w_M_withinR rfl hT (fun ⟨k, a1, a2, e⟩ => b_M_can_8 hT ⟨fun h9 => absurd h9 (by decide), fun _ => ⟨zinl rfl, fun _ => MB hT, fun h9 => absurd ?_ hl⟩⟩) (fun _ => b_M_can_8 hT ⟨fun _ => MB hT, fun h9 => absurd (by decide) h9⟩)))
    rw [(vT tT).2.2.1.1, e] at h9
    exact ⟨k, a1, a2, Nat.not_lt.mp (fun h8 => h9 (nI_lt h8 (by omega))), e⟩
  have hl' := hl
  obtain ⟨acts, c1, c2, c3, rfl⟩ := hl
  have OA : ∀ {Q : ZOut → ZSt → Prop}, zC m_N_isNot [.int v2, .int (nI 0), .int (nI 9)] S (zback m_N_can 13 8 [some (.ref 75), some (.int (nI acts)), some (.int v2), some (.int v3)] [.ref 75] (fun i1 l1 s1 S1 => zW 7 m_N_can i1 l1 s1 S1 Q) (fun x S1 => Q (.inr x) S1)) → zC m_N_can [.ref 75, .int (nI acts), .int v2, .int v3] S Q := fun {Q} h => b_N_can hS (w_N_isNoLength hS g2.1 g2.2.2 (fun _ => b_N_can_4 hS ⟨fun h9 => absurd (by decide) h9, fun _ => h⟩) (fun h9 => absurd hl' h9))
  have MA : ∀ {T : ZSt} {Q : ZOut → ZSt → Prop}, zSh T → zAt S T → zC m_M_within [.int v2, .int (nI 0), .int (nI 9)] (zsI T 130 0 (nI 0)) (zback m_M_can 29 18 [some (.ref 130), some (.int (nI acts)), some (.int v2), some (.int v3)] [.ref 130] (fun i1 l1 s1 S1 => zW 5 m_M_can i1 l1 s1 S1 Q) (fun x S1 => Q (.inr x) S1)) → zC m_M_can [.ref 130, .int (nI acts), .int v2, .int v3] T Q := fun {T Q} hT tT h => by
    refine b_M_can hT (w_M_withinR rfl hT (fun _ => b_M_can_8 hT ⟨fun h9 => absurd h9 (by decide), fun _ => ⟨zinl rfl, fun h9 => ?_, fun _ => h⟩⟩) (fun h9 => absurd ⟨acts, c1, c2, rfl⟩ h9))
    rw [(vT tT).2.2.1.1] at h9
    exact absurd h9 (nI_nlt (by omega) (by omega))
  by_cases ha : zIn v2 0 9
  case neg =>
    exact y_can (res := .inl (2, 1)) hS hD hJ (fun r kk e => by cases e; omega) (fun v e => by cases e) (OA (w_N_isNotR rfl hS (fun h9 => absurd h9 ha) (fun _ => b_N_can_9 hS ⟨fun _ => OB, fun h9 => absurd (by decide) h9⟩))) (fun T hT tT => MA hT tT (w_M_withinR rfl hT (fun h9 => absurd h9 ha) (fun _ => b_M_can_19 hT ⟨fun _ => MB hT, fun h9 => absurd (by decide) h9⟩)))
  have ha' := ha
  obtain ⟨a, -, a2, rfl⟩ := ha
  by_cases hb : zIn v3 0 9
  case neg =>
    exact y_can (res := .inl (2, 1)) hS hD hJ (fun r kk e => by cases e; omega) (fun v e => by cases e) (OA (w_N_isNotR rfl hS (fun _ => b_N_can_9 hS ⟨fun h9 => absurd (by decide) h9, fun _ => w_N_isNotR rfl hS (fun h9 => absurd h9 hb) (fun _ => b_N_can_14 hS ⟨fun h9 => absurd h9 (by decide), fun _ => OB⟩)⟩) (fun h9 => absurd ha' h9))) (fun T hT tT => MA hT tT (w_M_withinR rfl hT (fun _ => b_M_can_19 hT ⟨fun h9 => absurd h9 (by decide), fun _ => w_M_withinR rfl hT (fun h9 => absurd h9 hb) (fun _ => b_M_can_24 hT ⟨fun _ => MB hT, fun h9 => absurd (by decide) h9⟩)⟩) (fun h9 => absurd ha' h9)))
  have hb' := hb
  obtain ⟨b, -, b2, rfl⟩ := hb
  refine y_can (res := .inr (zBo (apLen x3 x5 x4 a b acts 1))) hS hD hJ (fun r kk e => by cases e) (fun v e => by cases e; exact zBo_or) (OA (w_N_isNotR rfl hS (fun _ => b_N_can_9 hS ⟨fun h9 => absurd (by decide) h9, fun _ => w_N_isNotR rfl hS (fun _ => b_N_can_14 hS ⟨fun _ => b_N_refuseIf hS ⟨fun _ => b_N_can_19 hS (w_Tr_tellApart hg.2.2.2.1.2 hg.2.2.2.2.2.2 hg.2.2.2.2.1.2 a2 b2 ⟨c1, c2⟩ hS hg.2.2.2.1.1 hg.2.2.2.2.1.1 hg.2.2.2.2.2.1 (fun S1 j1 => b_N_can_28 (j1.sh hS) ⟨zBo_nar, rfl, j1.hO rfl, j1.sh hS⟩)), fun h9 => absurd (by decide) h9⟩, fun h9 => absurd (by decide) h9⟩) (fun h9 => absurd hb' h9)⟩) (fun h9 => absurd ha' h9))) (fun T hT tT => MA hT tT (w_M_withinR rfl hT (fun _ => b_M_can_19 hT ⟨fun h9 => absurd h9 (by decide), fun _ => w_M_withinR rfl hT (fun _ => b_M_can_24 hT ⟨fun h9 => absurd h9 (by decide), fun _ => w_M_may1 (S := zsI T 130 0 (nI 0)) hT rfl (b_M_can_31 hT ⟨fun _ => ?_, fun h9 => absurd (by decide) h9⟩)⟩) (fun h9 => absurd hb' h9)⟩) (fun h9 => absurd ha' h9)))
  have hv := vT tT
  exact w_M_isApart (S := zsI T 130 0 (nI 0)) hv.2.2.2.1.2 hv.2.2.2.2.2.2 hv.2.2.2.2.1.2 a2 b2 ⟨c1, c2⟩ hT hv.2.2.2.1.1 hv.2.2.2.2.1.1 hv.2.2.2.2.2.1 (by rw [zI_o (by omega), tT.at rfl]; exact h34) (fun S1 m1 => b_M_can_39 (m1.sh hT) ⟨zBo_nar, rfl, zH0.tr (m1.1.hM rfl), m1.sh hT, m1.1.l161, zKM0.tr m1.2.1, m1.2.2.trans zI_s⟩)
