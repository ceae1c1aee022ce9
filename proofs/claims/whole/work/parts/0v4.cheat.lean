/-! cheat, hidden -/
theorem w_N_aww2 {o n : Nat} {kd fa fb : Nat → Nat} {h p : Nat → Nat} {S : ZSt} {Q : ZOut → ZSt → Prop} (hS : zSh S) (hw : OW S o n kd fa fb) (hf : OF S h p) (hQ : ∀ S', zH lO S S' → zSh S' → Q (.inl (some (.int (nI (go n kd fa fb 2000 h p 0 0).2.2.2.1)))) S') : zC m_N_actsWithoutWrong [.ref 75, .ref o] S Q := by
  obtain ⟨y1, ra, rb, rc, ⟨d0, d1, d2, d3⟩, y2⟩ := hw
  exact w_N_aww y1 (d0.no rfl) (d1.no rfl) (d2.no rfl) (d3.no rfl) hS y2 hf.1 hf.2 (fun S' j => hQ S' (j.hO rfl) (j.sh hS))
set_option maxHeartbeats 2000000 in
theorem p_cheat {v1 v2 v3 v4 : Int32} {S : ZSt} (hS : zSh S) (hD : zStD S) (hJ : jCore S) (hw : jWays S) (hn : zWn S) (ht : jTasks S) (h34 : zI S 130 34 = - nI 1) : zC m_L_cheat [.ref 75, .int v1, .int v2, .int v3, .int v4, .ref 161] S (zTwoR S m_M_cheat [.int v1, .int v2, .int v3, .int v4] (zAns4B S)) := by
  obtain ⟨wc, hwc, e6, e14, hW⟩ := hw
  obtain ⟨tc, htc, e7, e15, hT⟩ := ht
  have t14 : ∀ {T}, zAt S T → zI (zsI T 130 0 (nI 0)) 130 14 = nI wc := fun {T} tT => by rw [zI_o (by omega), tT.at rfl]; exact e14
  have t15 : ∀ {T}, zAt S T → zI (zsI T 130 0 (nI 0)) 130 15 = nI tc := fun {T} tT => by rw [zI_o (by omega), tT.at rfl]; exact e15
  rcases zpick wc v1 with hx | ⟨i, hi, rfl⟩
  · refine y_cheat (res := .inl (0, 1)) hS hD hJ (fun r kk e => by cases e; omega) (fun v e => by cases e) (b_N_cheat hS (w_N_theWay0 hS e6 hwc hx (wN hW) (zOb_bad (r := 0) (kk := 1) hS))) (fun T hT' tT => ?_)
    exact b_M_cheat hT' (w_M_isWay0 (S := zsI T 130 0 (nI 0)) hT' rfl (t14 tT) hwc hx (b_M_cheat_6 hT' ⟨fun _ => ⟨rfl, zMo_bad (r := 0) (kk := 1) hT'⟩, fun h9 => absurd (by decide) h9⟩))
  obtain ⟨o, ra, rb, rc, n, kd, fa, fb, ho, hd, y1, y2, y3⟩ := hW i hi
  have OA : ∀ {Q : ZOut → ZSt → Prop}, zW 7 m_N_cheat 3 [some (.ref 75), some (.int (nI i)), some (.int v2), some (.int v3), some (.int v4), none, none] [.ref o] S Q → zC m_N_cheat [.ref 75, .int (nI i), .int v2, .int v3, .int v4] S Q := fun {Q} g => b_N_cheat hS (w_N_theWay1 hS e6 hwc hi ho (wN hW) g)
  have MA : ∀ {T : ZSt} {Q : ZOut → ZSt → Prop}, zSh T → zAt S T → zW 5 m_M_cheat 6 [some (.ref 130), some (.int (nI i)), some (.int v2), some (.int v3), some (.int v4)] [.int (nI 1)] (zsI T 130 0 (nI 0)) Q → zC m_M_cheat [.ref 130, .int (nI i), .int v2, .int v3, .int v4] T Q := fun {T Q} hT' tT g => b_M_cheat hT' (w_M_isWay1 (S := zsI T 130 0 (nI 0)) hT' rfl (t14 tT) hwc hi g)
  rcases zpick tc v2 with hy | ⟨t, ht, rfl⟩
  · refine y_cheat (res := .inl (1, 2)) hS hD hJ (fun r kk e => by cases e; omega) (fun v e => by cases e) (OA (b_N_cheat_3 hS (w_N_theTask0 hS e7 htc hy (tN hT) (zOb_bad (r := 1) (kk := 2) hS)))) (fun T hT' tT => MA hT' tT (b_M_cheat_6 hT' ⟨fun h9 => absurd h9 (by decide), fun _ => w_M_isTask0 (S := zsI T 130 0 (nI 0)) hT' rfl (t15 tT) htc (by omega) hy (b_M_cheat_11 hT' ⟨fun _ => ⟨rfl, zMo_bad (r := 1) (kk := 2) hT'⟩, fun h9 => absurd (by decide) h9⟩)⟩))
  obtain ⟨o2, cs, ho2, hOT, hTM⟩ := hT t ht
  have hOW := OW_of hn ho hd y1 y2
  obtain ⟨x0, x1, x2, x3, x4, x5, hf, hg⟩ := hJ.1.1.vl
  have OB : ∀ {Q : ZOut → ZSt → Prop}, zW 7 m_N_cheat 7 [some (.ref 75), some (.int (nI i)), some (.int (nI t)), some (.int v3), some (.int v4), some (.ref o), none] [.ref o2] S Q → zC m_N_cheat [.ref 75, .int (nI i), .int (nI t), .int v3, .int v4] S Q := fun {Q} g => OA (b_N_cheat_3 hS (w_N_theTask1 hS e7 htc ht ho2 (tN hT) g))
  have MB : ∀ {T : ZSt} {Q : ZOut → ZSt → Prop}, zSh T → zAt S T → zW 5 m_M_cheat 11 [some (.ref 130), some (.int (nI i)), some (.int (nI t)), some (.int v3), some (.int v4)] [.int (nI 1)] (zsI T 130 0 (nI 0)) Q → zC m_M_cheat [.ref 130, .int (nI i), .int (nI t), .int v3, .int v4] T Q := fun {T Q} hT' tT g => MA hT' tT (b_M_cheat_6 hT' ⟨fun h9 => absurd h9 (by decide), fun _ => w_M_isTask1 (S := zsI T 130 0 (nI 0)) hT' rfl (t15 tT) htc (by omega) ht g⟩)
  by_cases hh : zIn v4 0 1
  case neg =>
    exact y_cheat (res := .inl (2, 3)) hS hD hJ (fun r kk e => by cases e; omega) (fun v e => by cases e) (OB (b_N_cheat_7 hS (w_N_isNotR rfl hS (fun h9 => absurd h9 hh) (fun _ => b_N_cheat_13 hS (b_N_refuseIf hS ⟨fun h9 => absurd h9 (by decide), fun _ => ⟨zinl rfl, zinl rfl, zOb_bad (r := 2) (kk := 3) hS⟩⟩))))) (fun T hT' tT => MB hT' tT (b_M_cheat_11 hT' ⟨fun h9 => absurd h9 (by decide), fun _ => w_M_isHowR hT' (fun h9 => absurd h9 hh) (fun _ => b_M_cheat_16 hT' (w_M_may0 (S := zsI T 130 0 (nI 0)) hT' rfl (by omega) (by omega) (b_M_cheat_19 hT' ⟨fun _ => ⟨rfl, zMo_bad (r := 2) (kk := 3) hT'⟩, fun h9 => absurd (by decide) h9⟩)))⟩))
  have hh' := hh
  obtain ⟨how, -, hh1, rfl⟩ := hh
  have OC : ∀ {Q : ZOut → ZSt → Prop}, zW 7 m_N_cheat 14 [some (.ref 75), some (.int (nI i)), some (.int (nI t)), some (.int v3), some (.int (nI how)), some (.ref o), some (.ref o2)] [] S Q → zC m_N_cheat [.ref 75, .int (nI i), .int (nI t), .int v3, .int (nI how)] S Q := fun {Q} g => OB (b_N_cheat_7 hS (w_N_isNotR rfl hS (fun _ => b_N_cheat_13 hS (b_N_refuseIf hS ⟨fun _ => g, fun h9 => absurd (by decide) h9⟩)) (fun h9 => absurd hh' h9)))
  have MC : ∀ {T : ZSt} {Q : ZOut → ZSt → Prop}, zSh T → zAt S T → zW 5 m_M_cheat 19 [some (.ref 130), some (.int (nI i)), some (.int (nI t)), some (.int v3), some (.int (nI how))] [.int (nI 1)] (zsI T 130 0 (nI 0)) Q → zC m_M_cheat [.ref 130, .int (nI i), .int (nI t), .int v3, .int (nI how)] T Q := fun {T Q} hT' tT g => MB hT' tT (b_M_cheat_11 hT' ⟨fun h9 => absurd h9 (by decide), fun _ => w_M_isHowR hT' (fun _ => b_M_cheat_16 hT' (w_M_may1 (S := zsI T 130 0 (nI 0)) hT' rfl g)) (fun h9 => absurd hh' h9)⟩)
  have vT : ∀ {T : ZSt}, zAt S T → zVl (zI (zsI T 130 0 (nI 0)) 132) x0 x1 x2 x3 x4 x5 := fun {T} tT => by
    show zVl (zI T 132) x0 x1 x2 x3 x4 x5
    rw [tT.at rfl]
    exact hf
  by_cases al : ∀ k, k < n → okW x0 x1 x2 x3 x4 x5 n kd fa fb k
  case neg =>
    exact y_cheat (res := .inl (3, 4)) hS hD hJ (fun r kk e => by cases e; omega) (fun v e => by cases e) (OC (b_N_cheat_14 hS (w_N_refuseBarred hS y1 y2 hg (fun h9 => absurd h9 al) (fun _ => zOb_bad (r := 3) (kk := 4) hS)))) (fun T hT' tT => MC hT' tT (b_M_cheat_19 hT' ⟨fun h9 => absurd h9 (by decide), fun _ => w_M_isAllowed (S := zsI T 130 0 (nI 0)) hT' rfl y1 (y3.T0 tT) (by omega) (by omega) (vT tT) (fun h9 => absurd h9 al) (fun _ => b_M_cheat_24 hT' ⟨fun _ => ⟨rfl, zMo_bad (r := 3) (kk := 4) hT'⟩, fun h9 => absurd (by decide) h9⟩)⟩))
  have hact := go_m (n := n) (kd := kd) (fa := fa) (fb := fb) 2000 0 0 (hF S) (pF S)
  have hOF : OF S (hF S) (pF S) := ⟨hJ.hN, hJ.pN⟩
  have MWT : ∀ {T : ZSt}, zAt S T → MW (zsI T 130 0 (nI 0)) i n kd fa fb (hF S) (pF S) := fun {T} tT => ⟨y1, okW_al al, by omega, y3.T0 tT, (show zFl (zsI T 130 0 (nI 0)) (hF S) (pF S) from (show zFl T (hF S) (pF S) from hJ.fl.T tT)), by rw [zI_o (by omega), tT.at rfl]; exact h34⟩
  generalize hgo : (go n kd fa fb 2000 (hF S) (pF S) 0 0).2.2.2.1 = A at hact
  have OD : ∀ {Q : ZOut → ZSt → Prop}, (∀ S', zH lO S S' → zSh S' → zW 7 m_N_cheat 23 [some (.ref 75), some (.int (nI i)), some (.int (nI t)), some (.int v3), some (.int (nI how)), some (.ref o), some (.ref o2)] [.int (nI A), .int (nI 0), .int v3, .ref 75] S' Q) → zC m_N_cheat [.ref 75, .int (nI i), .int (nI t), .int v3, .int (nI how)] S Q := fun {Q} g => OC (b_N_cheat_14 hS (w_N_refuseBarred hS y1 y2 hg (fun _ => b_N_cheat_17 hS (w_N_aww2 hS hOW hOF (fun S' j hS' => by rw [hgo]; exact g S' j hS'))) (fun h9 => absurd al h9)))
  have MD : ∀ {T : ZSt} {Q : ZOut → ZSt → Prop}, zSh T → zAt S T → zW 5 m_M_cheat 24 [some (.ref 130), some (.int (nI i)), some (.int (nI t)), some (.int v3), some (.int (nI how))] [.int (nI 1)] (zsI T 130 0 (nI 0)) Q → zC m_M_cheat [.ref 130, .int (nI i), .int (nI t), .int v3, .int (nI how)] T Q := fun {T Q} hT' tT g => MC hT' tT (b_M_cheat_19 hT' ⟨fun h9 => absurd h9 (by decide), fun _ => w_M_isAllowed (S := zsI T 130 0 (nI 0)) hT' rfl y1 (y3.T0 tT) (by omega) (by omega) (vT tT) (fun _ => g) (fun h9 => absurd al h9)⟩)
  rcases zpick A v3 with hz | ⟨k, hk, rfl⟩
  · refine y_cheat (res := .inl (2, 3)) hS hD hJ (fun r kk e => by cases e; omega) (fun v e => by cases e) (OD (fun S' j hS' => b_N_cheat_23 hS' (w_N_isNotU (by omega) hS' (fun ⟨k, hk, e⟩ => absurd e (hz k hk)) (fun _ => b_N_cheat_26 hS' (b_N_refuseIf hS' ⟨fun h9 => absurd h9 (by decide), fun _ => ⟨zinl rfl, zinl rfl, zOb_badH (r := 2) (kk := 3) j hS'⟩⟩))))) (fun T hT' tT => MD hT' tT (b_M_cheat_24 hT' ⟨fun h9 => absurd h9 (by decide), fun _ => ⟨fun h8 => ?_, fun h8 => ?_⟩⟩))
    · exact w_M_may0 (S := zsI T 130 0 (nI 0)) hT' rfl (by omega) (by omega) (b_M_cheat_39 hT' ⟨fun h9 => absurd (by decide) h9, fun _ => ⟨rfl, zMo_bad (r := 2) (kk := 3) hT'⟩⟩)
    · obtain ⟨a1, a2, a3, a4, a5, a6⟩ := MWT tT
      refine w_M_plain (S := zsI T 130 0 (nI 0)) a1 a2 a3 hT' a4 a6 a5 (fun Sd jd sd => b_M_cheat_32 (jd.sh hT') ?_)
      have hSd := jd.sh (S := zsI T 130 0 (nI 0)) hT'
      rw [hgo]
      refine ⟨fun _ => w_M_may0 hSd ((sd 0 (by omega) (by omega)).trans zI_s) (by omega) (by omega) (b_M_cheat_39 hSd ⟨fun h9 => absurd (by decide) h9, fun _ => ⟨rfl, zMo_badH (r := 2) (kk := 3) (zH0.tr (jd.hM rfl)) (sd.M zKM0 jd rfl) jd.l161 hSd⟩⟩), fun h9 => ?_⟩
      obtain ⟨k, hk, e⟩ := way_in2 (v := v3) (wc := A) (by omega) (by rw [nI_0]; exact h8) (fun h7 => h9 (by
        have t1 := zt (k := 1) rfl
        have tA := nI_toInt (n := A) (by omega)
        rw [zlt, zsub (by omega) (by omega), t1, tA] at h7
        rw [zle9, tA]
        omega))
      exact absurd e (hz k hk)
  · refine y_cheat (res := .inr (zBo (!met (hF S) (gow n kd fa fb 2000 k how (hF S) (pF S)) cs))) hS hD hJ (fun r kk e => by cases e) (fun v e => by cases e; exact zBo_or) (OD (fun S' j hS' => b_N_cheat_23 hS' (w_N_isNotU (by omega) hS' (fun _ => b_N_cheat_26 hS' (b_N_refuseIf hS' ⟨fun _ => b_N_cheat_27 hS' (w_N_isFound hS' (hOW.H j) (hOT.H j) (hOF.H hD j) (by omega) hh1 (fun S2 j2 hS2 => b_N_cheat_33 hS2 ⟨zBo_nar, rfl, j.tr j2, hS2⟩)), fun h9 => absurd (by decide) h9⟩)) (fun h9 => absurd rfl (h9 k hk))))) (fun T hT' tT => MD hT' tT (b_M_cheat_24 hT' ⟨fun h9 => absurd h9 (by decide), fun _ => ⟨fun h8 => absurd h8 (nI_pos (by omega)), fun _ => ?_⟩⟩))
    obtain ⟨a1, a2, a3, a4, a5, a6⟩ := MWT tT
    refine w_M_plain (S := zsI T 130 0 (nI 0)) a1 a2 a3 hT' a4 a6 a5 (fun Sd jd sd => b_M_cheat_32 (jd.sh hT') ?_)
    have hSd := jd.sh (S := zsI T 130 0 (nI 0)) hT'
    rw [hgo]
    refine ⟨fun h9 => absurd h9 (nI_ge (by omega) (by omega)), fun _ => w_M_may1 hSd ((sd 0 (by omega) (by omega)).trans zI_s) (b_M_cheat_39 hSd ⟨fun _ => ?_, fun h9 => absurd (by decide) h9⟩)⟩
    have tM : jTM (zsI T 130 0 (nI 0)) t cs := (hTM.T tT).cg rfl rfl rfl rfl
    refine w_M_isFound hSd ((MWT tT).J jd rfl rfl (sd 34 (by omega) (by omega))) (by omega) hOT.1 (tM.J jd rfl rfl) (by omega) hh1 (fun S3 j3 s3 => b_M_cheat_48 (j3.sh hSd) ⟨zBo_nar, rfl, ?_⟩)
    have jx : zJ [130, 144, 145, 146, 147] (zsI T 130 0 (nI 0)) S3 := (zJ3 jd (zsub_of rfl)).tr j3
    have sx : zK36 (zsI T 130 0 (nI 0)) S3 := sd.tr s3
    exact ⟨zH0.tr (jx.hM rfl), j3.sh hSd, jx.l161, sx.M zKM0 jx rfl, (sx 0 (by omega) (by omega)).trans zI_s⟩
def firstN (P : Nat → Bool) : Nat → Nat → Int32
  | 0, _ => - nI 1
  | f + 1, k => if P k = true then nI k else firstN P f (k + 1)
theorem w_N_hidden_23 {o o2 n how A : Nat} {kd fa fb : Nat → Nat} {cs : List (List (Nat × Nat))} {h p : Nat → Nat} {x1 x2 : Int32} (hA : A ≤ 2000) (hh : how ≤ 1) : ∀ (f k : Nat) {S : ZSt} {Q : ZOut → ZSt → Prop}, zSh S → zStD S → f + k = A → OW S o n kd fa fb → OT S o2 cs → OF S h p → (∀ S', zH lO S S' → zSh S' → Q (.inl (some (.int (firstN (fun k => met h (gow n kd fa fb 2000 k how h p) cs) f k)))) S') → zW 7 m_N_hidden 23 [some (.ref 75), some (.int x1), some (.int x2), some (.int (nI how)), some (.ref o), some (.ref o2), some (.int (nI A)), some (.int (nI k))] [] S Q
  | 0, k, S, Q, hS, hD, hk, hw, ht, hf, hQ => b_N_hidden_23 hS ⟨fun _ => hQ S zH.rf hS, fun h9 => absurd (nI_le (by omega) (by omega)) h9⟩
  | f + 1, k, S, Q, hS, hD, hk, hw, ht, hf, hQ => by
    refine b_N_hidden_23 hS ⟨fun h9 => absurd h9 (nI_ge (by omega) (by omega)), fun _ => w_N_isFound hS hw ht hf (by omega) hh (fun S1 j1 hS1 => b_N_hidden_32 hS1 ?_)⟩
    cases hb : met h (gow n kd fa fb 2000 k how h p) cs with
    | true =>
      refine ⟨fun h9 => absurd (by decide) h9, fun _ => ?_⟩
      have := hQ S1 j1 hS1
      rw [firstN, if_pos hb] at this
      exact this
    | false =>
      refine ⟨fun _ => ?_, fun h9 => absurd (by decide) h9⟩
      rw [nI_add]
      refine w_N_hidden_23 hA hh f (k + 1) hS1 (j1.D hD) (by omega) (hw.H j1) (ht.H j1) (hf.H hD j1) (fun S' j' hS' => ?_)
      have := hQ S' (j1.tr j') hS'
      rw [firstN, if_neg (by rw [hb]; decide)] at this
      exact this
theorem w_M_hidden_33 {q n how t A : Nat} {kd fa fb : Nat → Nat} {cs : List (List (Nat × Nat))} {h p : Nat → Nat} (hA : A ≤ 2000) (hh : how ≤ 1) (ht : t < 6) (hf : wfT cs) : ∀ (f k : Nat) {S : ZSt} {Q : ZOut → ZSt → Prop}, zSh S → f + k = A → MW S q n kd fa fb h p → jTM S t cs → (∀ S', zJ [130, 144, 145, 146, 147] S S' → zK36 S S' → Q (.inl (some (.int (firstN (fun k => met h (gow n kd fa fb 2000 k how h p) cs) f k)))) S') → zW 5 m_M_hidden 33 [some (.ref 130), some (.int (nI q)), some (.int (nI t)), some (.int (nI how)), some (.int (nI A)), some (.int (nI k))] [] S Q
  | 0, k, S, Q, hS, hk, hw, hT, hQ => b_M_hidden_33 hS ⟨fun _ => hQ S zJ.rf (fun _ _ _ => rfl), fun h9 => absurd (nI_le (by omega) (by omega)) h9⟩
  | f + 1, k, S, Q, hS, hk, hw, hT, hQ => by
    refine b_M_hidden_33 hS ⟨fun h9 => absurd h9 (nI_ge (by omega) (by omega)), fun _ => w_M_isFound hS hw ht hf hT (by omega) hh (fun S1 j1 s1 => b_M_hidden_42 (j1.sh hS) ?_)⟩
    have hS1 := j1.sh hS
    cases hb : met h (gow n kd fa fb 2000 k how h p) cs with
    | true =>
      refine ⟨fun h9 => absurd (by decide) h9, fun _ => ?_⟩
      have := hQ S1 j1 s1
      rw [firstN, if_pos hb] at this
      exact this
    | false =>
      refine ⟨fun _ => ?_, fun h9 => absurd (by decide) h9⟩
      rw [nI_add]
      refine w_M_hidden_33 hA hh ht hf f (k + 1) hS1 (by omega) (hw.J j1 rfl rfl (s1 34 (by omega) (by omega))) (hT.J j1 rfl rfl) (fun S' j' s' => ?_)
      have := hQ S' (j1.tr j') (s1.tr s')
      rw [firstN, if_neg (by rw [hb]; decide)] at this
      exact this
set_option maxHeartbeats 2000000 in
theorem p_hidden {v1 v2 v4 : Int32} {S : ZSt} (hS : zSh S) (hD : zStD S) (hJ : jCore S) (hw : jWays S) (hn : zWn S) (ht : jTasks S) (h34 : zI S 130 34 = - nI 1) : zC m_L_hidden [.ref 75, .int v1, .int v2, .int v4, .ref 161] S (zTwoR S m_M_hidden [.int v1, .int v2, .int v4] (zAns4 S)) := by
  obtain ⟨wc, hwc, e6, e14, hW⟩ := hw
  obtain ⟨tc, htc, e7, e15, hT⟩ := ht
  have t14 : ∀ {T}, zAt S T → zI (zsI T 130 0 (nI 0)) 130 14 = nI wc := fun {T} tT => by rw [zI_o (by omega), tT.at rfl]; exact e14
  have t15 : ∀ {T}, zAt S T → zI (zsI T 130 0 (nI 0)) 130 15 = nI tc := fun {T} tT => by rw [zI_o (by omega), tT.at rfl]; exact e15
  rcases zpick wc v1 with hx | ⟨i, hi, rfl⟩
  · refine y_hidden (res := .inl (0, 1)) hS hD hJ (fun r kk e => by cases e; omega) (b_N_hidden hS (w_N_theWay0 hS e6 hwc hx (wN hW) (zOb_bad (r := 0) (kk := 1) hS))) (fun T hT' tT => ?_)
    exact b_M_hidden hT' (w_M_isWay0 (S := zsI T 130 0 (nI 0)) hT' rfl (t14 tT) hwc hx (b_M_hidden_6 hT' ⟨fun _ => zMo_bad (r := 0) (kk := 1) hT', fun h9 => absurd (by decide) h9⟩))
  obtain ⟨o, ra, rb, rc, n, kd, fa, fb, ho, hd, y1, y2, y3⟩ := hW i hi
  have OA : ∀ {Q : ZOut → ZSt → Prop}, zW 7 m_N_hidden 3 [some (.ref 75), some (.int (nI i)), some (.int v2), some (.int v4), none, none, none, none] [.ref o] S Q → zC m_N_hidden [.ref 75, .int (nI i), .int v2, .int v4] S Q := fun {Q} g => b_N_hidden hS (w_N_theWay1 hS e6 hwc hi ho (wN hW) g)
  have MA : ∀ {T : ZSt} {Q : ZOut → ZSt → Prop}, zSh T → zAt S T → zW 5 m_M_hidden 6 [some (.ref 130), some (.int (nI i)), some (.int v2), some (.int v4), none, none] [.int (nI 1)] (zsI T 130 0 (nI 0)) Q → zC m_M_hidden [.ref 130, .int (nI i), .int v2, .int v4] T Q := fun {T Q} hT' tT g => b_M_hidden hT' (w_M_isWay1 (S := zsI T 130 0 (nI 0)) hT' rfl (t14 tT) hwc hi g)
  rcases zpick tc v2 with hy | ⟨t, ht, rfl⟩
  · refine y_hidden (res := .inl (1, 2)) hS hD hJ (fun r kk e => by cases e; omega) (OA (b_N_hidden_3 hS (w_N_theTask0 hS e7 htc hy (tN hT) (zOb_bad (r := 1) (kk := 2) hS)))) (fun T hT' tT => MA hT' tT (b_M_hidden_6 hT' ⟨fun h9 => absurd h9 (by decide), fun _ => w_M_isTask0 (S := zsI T 130 0 (nI 0)) hT' rfl (t15 tT) htc (by omega) hy (b_M_hidden_11 hT' ⟨fun _ => zMo_bad (r := 1) (kk := 2) hT', fun h9 => absurd (by decide) h9⟩)⟩))
  obtain ⟨o2, cs, ho2, hOT, hTM⟩ := hT t ht
  have hOW := OW_of hn ho hd y1 y2
  obtain ⟨x0, x1, x2, x3, x4, x5, hf, hg⟩ := hJ.1.1.vl
  have OB : ∀ {Q : ZOut → ZSt → Prop}, zW 7 m_N_hidden 7 [some (.ref 75), some (.int (nI i)), some (.int (nI t)), some (.int v4), some (.ref o), none, none, none] [.ref o2] S Q → zC m_N_hidden [.ref 75, .int (nI i), .int (nI t), .int v4] S Q := fun {Q} g => OA (b_N_hidden_3 hS (w_N_theTask1 hS e7 htc ht ho2 (tN hT) g))
  have MB : ∀ {T : ZSt} {Q : ZOut → ZSt → Prop}, zSh T → zAt S T → zW 5 m_M_hidden 11 [some (.ref 130), some (.int (nI i)), some (.int (nI t)), some (.int v4), none, none] [.int (nI 1)] (zsI T 130 0 (nI 0)) Q → zC m_M_hidden [.ref 130, .int (nI i), .int (nI t), .int v4] T Q := fun {T Q} hT' tT g => MA hT' tT (b_M_hidden_6 hT' ⟨fun h9 => absurd h9 (by decide), fun _ => w_M_isTask1 (S := zsI T 130 0 (nI 0)) hT' rfl (t15 tT) htc (by omega) ht g⟩)
  by_cases hh : zIn v4 0 1
  case neg =>
    exact y_hidden (res := .inl (2, 3)) hS hD hJ (fun r kk e => by cases e; omega) (OB (b_N_hidden_7 hS (w_N_isNotR rfl hS (fun h9 => absurd h9 hh) (fun _ => b_N_hidden_13 hS (b_N_refuseIf hS ⟨fun h9 => absurd h9 (by decide), fun _ => ⟨zinl rfl, zinl rfl, zOb_bad (r := 2) (kk := 3) hS⟩⟩))))) (fun T hT' tT => MB hT' tT (b_M_hidden_11 hT' ⟨fun h9 => absurd h9 (by decide), fun _ => w_M_isHowR hT' (fun h9 => absurd h9 hh) (fun _ => b_M_hidden_16 hT' (w_M_may0 (S := zsI T 130 0 (nI 0)) hT' rfl (by omega) (by omega) (b_M_hidden_19 hT' ⟨fun _ => zMo_bad (r := 2) (kk := 3) hT', fun h9 => absurd (by decide) h9⟩)))⟩))
  have hh' := hh
  obtain ⟨how, -, hh1, rfl⟩ := hh
  have OC : ∀ {Q : ZOut → ZSt → Prop}, zW 7 m_N_hidden 14 [some (.ref 75), some (.int (nI i)), some (.int (nI t)), some (.int (nI how)), some (.ref o), some (.ref o2), none, none] [] S Q → zC m_N_hidden [.ref 75, .int (nI i), .int (nI t), .int (nI how)] S Q := fun {Q} g => OB (b_N_hidden_7 hS (w_N_isNotR rfl hS (fun _ => b_N_hidden_13 hS (b_N_refuseIf hS ⟨fun _ => g, fun h9 => absurd (by decide) h9⟩)) (fun h9 => absurd hh' h9)))
  have MC : ∀ {T : ZSt} {Q : ZOut → ZSt → Prop}, zSh T → zAt S T → zW 5 m_M_hidden 19 [some (.ref 130), some (.int (nI i)), some (.int (nI t)), some (.int (nI how)), none, none] [.int (nI 1)] (zsI T 130 0 (nI 0)) Q → zC m_M_hidden [.ref 130, .int (nI i), .int (nI t), .int (nI how)] T Q := fun {T Q} hT' tT g => MB hT' tT (b_M_hidden_11 hT' ⟨fun h9 => absurd h9 (by decide), fun _ => w_M_isHowR hT' (fun _ => b_M_hidden_16 hT' (w_M_may1 (S := zsI T 130 0 (nI 0)) hT' rfl g)) (fun h9 => absurd hh' h9)⟩)
  have vT : ∀ {T : ZSt}, zAt S T → zVl (zI (zsI T 130 0 (nI 0)) 132) x0 x1 x2 x3 x4 x5 := fun {T} tT => by
    show zVl (zI T 132) x0 x1 x2 x3 x4 x5
    rw [tT.at rfl]
    exact hf
  by_cases al : ∀ k, k < n → okW x0 x1 x2 x3 x4 x5 n kd fa fb k
  case neg =>
    exact y_hidden (res := .inl (3, 4)) hS hD hJ (fun r kk e => by cases e; omega) (OC (b_N_hidden_14 hS (w_N_refuseBarred hS y1 y2 hg (fun h9 => absurd h9 al) (fun _ => zOb_bad (r := 3) (kk := 4) hS)))) (fun T hT' tT => MC hT' tT (b_M_hidden_19 hT' ⟨fun h9 => absurd h9 (by decide), fun _ => w_M_isAllowed (S := zsI T 130 0 (nI 0)) hT' rfl y1 (y3.T0 tT) (by omega) (by omega) (vT tT) (fun h9 => absurd h9 al) (fun _ => b_M_hidden_24 hT' ⟨fun h9 => absurd (by decide) h9, fun _ => zMo_bad (r := 3) (kk := 4) hT'⟩)⟩))
  have hact := go_m (n := n) (kd := kd) (fa := fa) (fb := fb) 2000 0 0 (hF S) (pF S)
  have hOF : OF S (hF S) (pF S) := ⟨hJ.hN, hJ.pN⟩
  have MWT : ∀ {T : ZSt}, zAt S T → MW (zsI T 130 0 (nI 0)) i n kd fa fb (hF S) (pF S) := fun {T} tT => ⟨y1, okW_al al, by omega, y3.T0 tT, (show zFl (zsI T 130 0 (nI 0)) (hF S) (pF S) from (show zFl T (hF S) (pF S) from hJ.fl.T tT)), by rw [zI_o (by omega), tT.at rfl]; exact h34⟩
  generalize hgo : (go n kd fa fb 2000 (hF S) (pF S) 0 0).2.2.2.1 = A at hact
  refine y_hidden (res := .inr (firstN (fun k => met (hF S) (gow n kd fa fb 2000 k how (hF S) (pF S)) cs) A 0)) hS hD hJ (fun r kk e => by cases e) (OC (b_N_hidden_14 hS (w_N_refuseBarred hS y1 y2 hg (fun _ => b_N_hidden_17 hS (w_N_aww2 hS hOW hOF (fun S' j hS' => ?_))) (fun h9 => absurd al h9)))) (fun T hT' tT => MC hT' tT (b_M_hidden_19 hT' ⟨fun h9 => absurd h9 (by decide), fun _ => w_M_isAllowed (S := zsI T 130 0 (nI 0)) hT' rfl y1 (y3.T0 tT) (by omega) (by omega) (vT tT) (fun _ => b_M_hidden_24 hT' ⟨fun _ => ?_, fun h9 => absurd (by decide) h9⟩) (fun h9 => absurd al h9)⟩))
  · rw [hgo]
    exact b_N_hidden_20 hS' (w_N_hidden_23 (by omega) hh1 A 0 hS' (j.D hD) rfl (hOW.H j) (hOT.H j) (hOF.H hD j) (fun S2 j2 hS2 => ⟨rfl, j.tr j2, hS2⟩))
  · obtain ⟨a1, a2, a3, a4, a5, a6⟩ := MWT tT
    refine w_M_plain (S := zsI T 130 0 (nI 0)) a1 a2 a3 hT' a4 a6 a5 (fun Sd jd sd => b_M_hidden_30 (jd.sh hT') ?_)
    have hSd := jd.sh (S := zsI T 130 0 (nI 0)) hT'
    rw [hgo]
    have tM : jTM (zsI T 130 0 (nI 0)) t cs := (hTM.T tT).cg rfl rfl rfl rfl
    refine w_M_hidden_33 (by omega) hh1 (by omega) hOT.1 A 0 hSd rfl ((MWT tT).J jd rfl rfl (sd 34 (by omega) (by omega))) (tM.J jd rfl rfl) (fun S3 j3 s3 => ⟨rfl, ?_⟩)
    have jx : zJ [130, 144, 145, 146, 147] (zsI T 130 0 (nI 0)) S3 := (zJ3 jd (zsub_of rfl)).tr j3
    have sx : zK36 (zsI T 130 0 (nI 0)) S3 := sd.tr s3
    exact ⟨zH0.tr (jx.hM rfl), j3.sh hSd, jx.l161, sx.M zKM0 jx rfl, (sx 0 (by omega) (by omega)).trans zI_s⟩
