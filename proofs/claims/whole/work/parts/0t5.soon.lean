/-! How soon a wrong act is found: alike -/
def zFl (S : ZSt) (h p : Nat → Nat) : Prop := (∀ j, j < 12 → zI S 132 (11 + j) = nI (h j) ∧ h j ≤ 1000000000) ∧ ∀ j, j < 24 → zI S 132 (23 + j) = nI (p j) ∧ p j ≤ 3
theorem jCore.fl {S : ZSt} (h : jCore S) : zFl S (hF S) (pF S) := ⟨h.hM, h.pM⟩
theorem zFl.J {l : List Nat} {S S1 : ZSt} {h p : Nat → Nat} (hf : zFl S h p) (j : zJ l S S1) (n0 : zmem 132 l = false) : zFl S1 h p := by
  unfold zFl
  rw [j.2 132 n0]
  exact hf
theorem go_m {n : Nat} {kd fa fb : Nat → Nat} : ∀ (f m t : Nat) (h p : Nat → Nat), (go n kd fa fb f h p t m).2.2.2.1 ≤ m + f
  | 0, m, t, h, p => Nat.le_refl _
  | f + 1, m, t, h, p => by
    cases hq : dox (kd t) (fa t) (fb t) h p with
    | none =>
      rw [go_n hq]
      exact Nat.le_add_right _ _
    | some q =>
      rw [go_s hq]
      split
      · have := go_m (n := n) (kd := kd) (fa := fa) (fb := fb) f (m + 1) (mvr n (kd t) (fa t) (fb t) t q.1 q.2).1 q.1 q.2
        omega
      · show m + 1 ≤ m + (f + 1)
        omega
theorem wr_m {n : Nat} {kd fa fb : Nat → Nat} {how t m : Nat} {h p : Nat → Nat} : (wr n kd fa fb how h p t m).2.2.2.1 ≤ m + 1 := by
  unfold wr
  split
  · exact Nat.le_refl _
  · split
    · exact Nat.le_succ _
    · split
      · exact Nat.le_succ _
      · exact Nat.le_refl _
theorem gow_m {n : Nat} {kd fa fb : Nat → Nat} {lim k how : Nat} {h p : Nat → Nat} (hk : k < lim) : (gow n kd fa fb lim k how h p).2.2.2.1 ≤ lim := by
  have h1 := go_m (n := n) (kd := kd) (fa := fa) (fb := fb) k 0 0 h p
  have h2 := wr_m (n := n) (kd := kd) (fa := fa) (fb := fb) (how := how) (h := (go n kd fa fb k h p 0 0).1) (p := (go n kd fa fb k h p 0 0).2.1) (t := (go n kd fa fb k h p 0 0).2.2.1) (m := (go n kd fa fb k h p 0 0).2.2.2.1)
  unfold gow
  simp only
  split
  · split
    · have h3 := go_m (n := n) (kd := kd) (fa := fa) (fb := fb) (lim - k - 1) (wr n kd fa fb how (go n kd fa fb k h p 0 0).1 (go n kd fa fb k h p 0 0).2.1 (go n kd fa fb k h p 0 0).2.2.1 (go n kd fa fb k h p 0 0).2.2.2.1).2.2.2.1 (wr n kd fa fb how (go n kd fa fb k h p 0 0).1 (go n kd fa fb k h p 0 0).2.1 (go n kd fa fb k h p 0 0).2.2.1 (go n kd fa fb k h p 0 0).2.2.2.1).2.2.1 (wr n kd fa fb how (go n kd fa fb k h p 0 0).1 (go n kd fa fb k h p 0 0).2.1 (go n kd fa fb k h p 0 0).2.2.1 (go n kd fa fb k h p 0 0).2.2.2.1).1 (wr n kd fa fb how (go n kd fa fb k h p 0 0).1 (go n kd fa fb k h p 0 0).2.1 (go n kd fa fb k h p 0 0).2.2.1 (go n kd fa fb k h p 0 0).2.2.2.1).2.1
      omega
    · omega
  · omega
theorem w_N_aww {o ra rb rc n : Nat} {kd fa fb : Nat → Nat} (hW : zWy n kd fa fb) (n0 : zNo [106, 107, 108, 109] o) (n1 : zNo [106, 107, 108, 109] ra) (n2 : zNo [106, 107, 108, 109] rb) (n3 : zNo [106, 107, 108, 109] rc) {h p : Nat → Nat} {S : ZSt} {Q : ZOut → ZSt → Prop} (hS : zSh S) (hw : jWO S o ra rb rc n kd fa fb) (hH : jN (zI S 94) 12 1000000000 h) (hP : jN (zI S 95) 24 3 p) (hQ : ∀ S', zJ [106, 107, 108, 109] S S' → Q (.inl (some (.int (nI (go n kd fa fb 2000 h p 0 0).2.2.2.1)))) S') : zC m_N_actsWithoutWrong [.ref 75, .ref o] S Q := by
  have s3 : ∀ c, zmem c [106, 107, 108, 109] = false → zmem c [106, 108, 109] = false := zsub_of rfl
  refine b_N_actsWithoutWrong hS (w_Ru_startFrom hS hH hP (fun S1 j1 _ r1 => b_N_actsWithoutWrong_5 (j1.sh hS) (w_Ru_follow hW (s3 _ n0) (s3 _ n1) (s3 _ n2) (s3 _ n3) (j1.sh hS) (hw.J j1 n0 n1 n2 n3) (by omega) hW.1 r1 (fun S2 j2 r2 => b_N_actsWithoutWrong_10 (j2.sh (j1.sh hS)) ?_))))
  rw [r2.2.2.2.1]
  exact hQ S2 (j1.tr (zJ3 j2 s3))
theorem w_M_plain {n q : Nat} {kd fa fb : Nat → Nat} (hW : zWy n kd fa fb) (hA : zAl n kd fa fb) (hq : q ≤ 6) {h p : Nat → Nat} {S : ZSt} {Q : ZOut → ZSt → Prop} (hS : zSh S) (hw : jWM S q n kd fa fb) (h34 : zI S 130 34 = - nI 1) (hF : zFl S h p) (hQ : ∀ S', zJ [130, 145, 146, 147] S S' → zK36 S S' → Q (.inl (some (.int (nI (go n kd fa fb 2000 h p 0 0).2.2.2.1)))) S') : zC m_M_plain [.ref 130, .int (nI q)] S Q := by
  refine b_M_plain hS (w_M_fromFlock hS (fun S1 j1 g1 g2 => b_M_plain_2 (j1.sh hS) (w_M_goes hW hA hq (h := h) (p := p) (j1.sh hS) (hw.J j1 rfl) (by omega) (by rw [j1.2 130 rfl]; exact h34) (fun j hj => by rw [g1 j hj]; exact hF.1 j hj) (fun j hj => by rw [g2 j hj]; exact hF.2 j hj) (fun S2 j2 s2 r2 => b_M_plain_8 (j2.sh (j1.sh hS)) ?_))))
  rw [r2.2.2.2.1]
  exact hQ S2 ((zJ3 j1 (zsub_of rfl)).tr (zJ3 j2 (zsub_of rfl))) (fun j h1 h2 => by rw [s2 j h1 h2, j1.2 130 rfl])
theorem way_in2 {v : Int32} {wc : Nat} (hwc : wc ≤ 100000) (h1 : ¬ v < nI 0) (h2 : ¬ nI wc - nI 1 < v) : ∃ i, i < wc ∧ v = nI i := by
  have t1 := zt (k := 1) rfl
  have tw := nI_toInt (n := wc) (by omega)
  rw [zlt, zt (k := 0) rfl] at h1
  rw [zlt, zsub (by omega) (by omega), t1, tw] at h2
  exact ⟨v.toInt.toNat, by omega, zofN (by omega)⟩
theorem zK36.keys {S S' : ZSt} (h : zK36 S S') : ∀ j, zmem j zKeys = true → zI S' 130 j = zI S 130 j := fun j hj => h j (by have := zkey hj; omega) (by have := zkey hj; omega)
theorem zK36.keys0 {S S' : ZSt} (h : zK36 S S') : ∀ j, j = 0 ∨ zmem j zKeys = true → zI S' 130 j = zI S 130 j := fun j hj => by
  rcases hj with hj | hj
  · exact h j (by omega) (by omega)
  · exact h.keys j hj
theorem zK36.tr {S S1 S2 : ZSt} (h1 : zK36 S S1) (h2 : zK36 S1 S2) : zK36 S S2 := fun j a b => (h2 j a b).trans (h1 j a b)
def lWork : List Nat := [105, 106, 107, 108, 109, 130, 131, 145, 146, 147]
theorem p_soon {v1 v2 v3 : Int32} {S : ZSt} (hS : zSh S) (hJ : jCore S) (hw : jWays S) (h34 : zI S 130 34 = - nI 1) : zC m_L_soon [.ref 75, .int v1, .int v2, .int v3, .ref 161] S (zTwoR S m_M_soon [.int v1, .int v2, .int v3] (zAns3 lWork S jCore)) := by
  obtain ⟨wc, hwc, e6, e14, hW⟩ := hw
  refine b_L_soon hS (b_N_soon hS (w_N_theWay hS e6 hwc (wN hW) (fun i o hi ev ho => ?_) (fun hx => ?_)))
  · obtain ⟨o', ra, rb, rc, n, kd, fa, fb, ho', ⟨d0, d1, d2, d3⟩, y1, y2, y3⟩ := hW i hi
    obtain rfl : o' = o := Option.some.inj (ho'.symm.trans ho)
    obtain ⟨x0, x1, x2, x3, x4, x5, hf, hg⟩ := hJ.1.1.vl
    subst ev
    -- how is neither
    have L13 : ¬ (v3 = nI 0 ∨ v3 = nI 1) → zW 7 m_L_soon 13 [some (.ref 75), some (.int (nI i)), some (.int v2), some (.int v3), some (.ref 161), none] [.float 0] (zThr (zsI S 105 2 (zI S 105 2 + nI 1))) (zTwoR S m_M_soon [.int (nI i), .int v2, .int v3] (zAns3 lWork S jCore)) := fun hb =>
      b_L_soon_13 hS ⟨_, rfl, ⟨rfl, rfl, rfl, hS⟩, b_M_soon hS (w_M_isWay (S := zsI (zThr (zsI S 105 2 (zI S 105 2 + nI 1))) 130 0 (nI 0)) hS rfl e14 hwc (fun _ => b_M_soon_6 hS ⟨fun h9 => absurd h9 (by decide), fun _ => b_M_isHow hS ⟨fun h1 => absurd (Or.inl (h1.trans nI_0.symm)) hb, fun h1 => ⟨fun h2 => ⟨rfl, b_M_soon_11 hS (w_M_may0 (S := zsI (zThr (zsI S 105 2 (zI S 105 2 + nI 1))) 130 0 (nI 0)) hS rfl (by omega) (by omega) (b_M_soon_14 hS ⟨fun _ => ⟨_, rfl, (zBad rfl (by decide) (jCore_bad2 hJ)).to3⟩, fun h9 => absurd (by decide) h9⟩))⟩, fun h2 => absurd (Or.inr (Classical.not_not.mp h2)) hb⟩⟩⟩) (fun h9 => absurd rfl (h9 i hi)))⟩
    have bh : ∀ {v : Int32}, v < nI 0 ∨ ¬ v ≤ nI 1 → ¬ (v = nI 0 ∨ v = nI 1) := fun {v} hb h9 => by
      rcases h9 with rfl | rfl
      · rcases hb with hb | hb
        · exact absurd hb (by decide)
        · exact absurd (by decide) hb
      · rcases hb with hb | hb
        · exact absurd hb (by decide)
        · exact absurd (by decide) hb
    refine b_N_soon_3 hS (b_N_isNot hS ⟨fun h1 => ⟨rfl, b_N_soon_9 hS (b_N_refuseIf hS ⟨fun h9 => absurd h9 (by decide), fun _ => ⟨zinl rfl, zinl rfl, L13 (bh (Or.inl h1))⟩⟩)⟩, fun h1 => ⟨fun h2 => ⟨rfl, ?_⟩, fun h2 => ⟨rfl, b_N_soon_9 hS (b_N_refuseIf hS ⟨fun h9 => absurd h9 (by decide), fun _ => ⟨zinl rfl, zinl rfl, L13 (bh (Or.inr h2))⟩⟩)⟩⟩⟩)
    have hr := zrgI (a := 0) (b := 1) rfl rfl h1 h2
    obtain ⟨how, hhow, rfl⟩ : ∃ k : Nat, k < 2 ^ 31 ∧ v3 = nI k := ⟨v3.toInt.toNat, by omega, zofN (by omega)⟩
    rw [nI_toInt hhow] at hr
    have hh1 : how ≤ 1 := by omega
    have MH : ∀ {T : ZSt} {Q : ZOut → ZSt → Prop}, zSh T → zI T 130 14 = nI wc → zI T 130 0 = nI 0 → zW 5 m_M_soon 14 [some (.ref 130), some (.int (nI i)), some (.int v2), some (.int (nI how))] [.int (nI 1)] T Q → zC m_M_isWay [.ref 130, .int (nI i)] T (zback m_M_soon 7 5 [some (.ref 130), some (.int (nI i)), some (.int v2), some (.int (nI how))] [] (fun i1 l1 s1 S1 => zW 5 m_M_soon i1 l1 s1 S1 Q) (fun x S1 => Q (.inr x) S1)) := fun {T Q} hT t14 t0 g => w_M_isWay hT t0 t14 hwc (fun _ => b_M_soon_6 hT ⟨fun h9 => absurd h9 (by decide), fun _ => b_M_isHow hT ⟨fun _ => ⟨rfl, b_M_soon_11 hT (w_M_may1 hT t0 g)⟩, fun h1 => ⟨fun h2 => (by
      rcases (show how = 0 ∨ how = 1 by omega) with rfl | rfl
      · exact absurd (by decide) h1
      · exact absurd rfl h2), fun _ => ⟨rfl, b_M_soon_11 hT (w_M_may1 hT t0 g)⟩⟩⟩⟩) (fun h9 => absurd rfl (h9 i hi))
    refine b_N_soon_9 hS (b_N_refuseIf hS ⟨fun _ => b_N_soon_10 hS (w_N_refuseBarred hS y1 y2 hg (fun al => ?_) (fun nal => ?_)), fun h9 => absurd (by decide) h9⟩)
    · have hA := okW_al al
      have MA : ∀ {T : ZSt} {Q : ZOut → ZSt → Prop}, zSh T → zI T 130 14 = nI wc → zI T 130 0 = nI 0 → jWM T i n kd fa fb → zVl (zI T 132) x0 x1 x2 x3 x4 x5 → zW 5 m_M_soon 19 [some (.ref 130), some (.int (nI i)), some (.int v2), some (.int (nI how))] [.int (nI 1)] T Q → zC m_M_isWay [.ref 130, .int (nI i)] T (zback m_M_soon 7 5 [some (.ref 130), some (.int (nI i)), some (.int v2), some (.int (nI how))] [] (fun i1 l1 s1 S1 => zW 5 m_M_soon i1 l1 s1 S1 Q) (fun x S1 => Q (.inr x) S1)) := fun {T Q} hT t14 t0 wT vT g => MH hT t14 t0 (b_M_soon_14 hT ⟨fun h9 => absurd h9 (by decide), fun _ => w_M_isAllowed hT t0 y1 wT (by omega) (by omega) vT (fun _ => g) (fun h9 => absurd al h9)⟩)
      refine b_N_soon_13 hS (w_N_aww y1 (d0.no rfl) (d1.no rfl) (d2.no rfl) (d3.no rfl) hS y2 hJ.hN hJ.pN (fun Sa ja => b_N_soon_19 (ja.sh hS) ?_))
      have hSa := ja.sh hS
      have hact := go_m (n := n) (kd := kd) (fa := fa) (fb := fb) 2000 0 0 (hF S) (pF S)
      generalize hgo : (go n kd fa fb 2000 (hF S) (pF S) 0 0).2.2.2.1 = A at hact
      by_cases hx : ∃ k, k < A ∧ v2 = nI k
      · obtain ⟨k, hk, rfl⟩ := hx
        rw [zsub1 (by omega)]
        refine w_N_isNot0 hSa (nI_nlt (by omega) (by omega)) (nI_le (by omega) (by omega)) (b_N_soon_22 hSa (b_N_refuseIf hSa ⟨fun _ => b_N_soon_23 hSa ?_, fun h9 => absurd (by decide) h9⟩))
        refine w_Ru_startFrom hSa (by rw [ja.2 94 rfl]; exact hJ.hN) (by rw [ja.2 95 rfl]; exact hJ.pN) (fun Sb jb _ r0 => b_N_soon_28 (jb.sh hSa) ?_)
        have hSb := jb.sh hSa
        have jab := ja.tr jb
        refine w_Ru_followWrong y1 (d0.no rfl) (d1.no rfl) (d2.no rfl) (d3.no rfl) hSb (y2.J jab (d0.no rfl) (d1.no rfl) (d2.no rfl) (d3.no rfl)) (by omega) hh1 r0 (fun Sc jc r1 => b_N_soon_34 (jc.sh hSb) ?_)
        have hSc := jc.sh hSb
        have jac : zJ [106, 107, 108, 109] S Sc := jab.tr (zJ3 jc (zsub_of rfl))
        have wSc : jWM Sc i n kd fa fb := y3.J jac rfl
        have fSc : zFl Sc (hF S) (pF S) := hJ.fl.J jac rfl
        have hRm := gow_m (n := n) (kd := kd) (fa := fa) (fb := fb) (lim := 2000) (k := k) (how := how) (h := hF S) (p := pF S) (by omega)
        generalize hgw : gow n kd fa fb 2000 k how (hF S) (pF S) = R at r1 hRm
        obtain ⟨Rh, Rp, Rt, Rm, Re, Rs⟩ := R
        have hRm : Rm ≤ 2000 := hRm
        have u4 : zI Sc 106 4 = nI Rm := r1.2.2.2.1
        have u5 : zI Sc 106 5 = nI Re := r1.2.2.2.2.1
        rw [u5, u4]
        have key : ∀ (x y : Int32), x = y → (∀ {T : ZSt}, zI T 130 29 = nI Re → zI T 130 30 = nI Rm → zAns3 lWork S jCore (nI 0) (.int y) T → zW 5 m_M_soon 45 [some (.ref 130), some (.int (nI i)), some (.int (nI k)), some (.int (nI how))] [] T (fun o2 S2 => ∃ b : Value, o2 = .inl (some b) ∧ zAns3 lWork S jCore (nI 0) b S2) ∨ ¬ zSh T) → zW 7 m_L_soon 7 [some (.ref 75), some (.int (nI i)), some (.int (nI k)), some (.int (nI how)), some (.ref 161), none] [.int x, .int (nI 0), .ref 161] Sc (zTwoR S m_M_soon [.int (nI i), .int (nI k), .int (nI how)] (zAns3 lWork S jCore)) := fun x y exy g => by
          refine b_L_soon_7 hSc ⟨zinl rfl, _, rfl, ⟨jac.2 0 rfl, ?_, ?_, hSc⟩, b_M_soon hSc (MA (T := zsI (zsL Sc 161 0 x.toInt64) 130 0 (nI 0)) hSc ((congrFun (jac.2 130 rfl) 14).trans e14) rfl wSc (by show zVl (zI Sc 132) x0 x1 x2 x3 x4 x5; rw [jac.2 132 rfl]; exact hf) (b_M_soon_19 hSc ⟨fun h9 => absurd h9 (by decide), fun _ => ⟨fun h9 => absurd h9 (nI_pos (by omega)), fun _ => ?_⟩⟩))⟩
          · show Sc.2.2.2.2.1 0 = S.2.2.2.2.1 0
            rw [jac.1]
          · show Sc.2.2.2.1 0 = S.2.2.2.1 0
            rw [jac.1]
          have fT : zFl (zsI (zsL Sc 161 0 x.toInt64) 130 0 (nI 0)) (hF S) (pF S) := fSc
          have wT : jWM (zsI (zsL Sc 161 0 x.toInt64) 130 0 (nI 0)) i n kd fa fb := wSc
          have kT : zI (zsI (zsL Sc 161 0 x.toInt64) 130 0 (nI 0)) 130 34 = - nI 1 := (congrFun (jac.2 130 rfl) 34).trans h34
          refine w_M_plain (S := zsI (zsL Sc 161 0 x.toInt64) 130 0 (nI 0)) y1 hA (by omega) hSc wT kT fT (fun Sd jd sd => b_M_soon_27 (jd.sh hSc) ?_)
          have hSd := jd.sh hSc
          rw [hgo]
          refine ⟨fun h9 => absurd h9 (nI_ge (by omega) (by omega)), fun _ => w_M_may1 hSd ((sd 0 (by omega) (by omega)).trans rfl) (b_M_soon_34 hSd ⟨fun _ => w_M_fromFlock hSd (fun Se je g1 g2 => b_M_soon_39 (je.sh hSd) ?_), fun h9 => absurd (by decide) h9⟩)⟩
          have hSe := je.sh hSd
          have fd := fT.J jd rfl
          refine w_M_goesW y1 hA (by omega) (h := hF S) (p := pF S) hSe ((wT.J jd rfl).J je rfl) (by omega) (by omega) hh1 (by rw [je.2 130 rfl, sd 34 (by omega) (by omega)]; exact kT) (fun j hj => by rw [g1 j hj]; exact fd.1 j hj) (fun j hj => by rw [g2 j hj]; exact fd.2 j hj) (fun Sg jg sg rg => ?_)
          rw [hgw] at rg
          have jx : zJ [130, 145, 146, 147] (zsI (zsL Sc 161 0 x.toInt64) 130 0 (nI 0)) Sg := (jd.tr (zJ3 je (zsub_of rfl))).tr (zJ3 jg (zsub_of rfl))
          have sx : zK36 (zsI (zsL Sc 161 0 x.toInt64) 130 0 (nI 0)) Sg := sd.tr (fun j h1 h2 => (sg j h1 h2).trans (by rw [je.2 130 rfl]))
          rcases g (T := Sg) rg.2.2.2.2.1 rg.2.2.2.1 (zOKJ hJ exy jac jx sx.keys0 rfl) with h9 | h9
          · exact h9
          · exact absurd (jg.sh hSe) h9
        refine ⟨fun h9 => key _ (if Rm ≤ k then nI 0 else nI (Rm - k - 1)) ?_ (fun {T} t29 t30 ha => ?_), fun h9 => key _ (- nI 1) rfl (fun {T} t29 t30 ha => ?_)⟩
        · by_cases hle : Rm ≤ k
          · rw [if_pos hle, if_neg]
            have t1 := zt (k := 1) rfl
            have tr := nI_toInt (n := Rm) (by omega)
            have tk := nI_toInt (n := k) (by omega)
            have e1 : (nI Rm - nI k).toInt = (Rm : Int) - k := by rw [zsub (by omega) (by omega), tr, tk]
            rw [zlt, zsub (by omega) (by omega), e1, t1, zt (k := 0) rfl]
            omega
          · rw [if_neg hle, pk_sub (by omega), pk_sub (by omega)]
            by_cases h0 : Rm - k - 1 = 0
            · rw [h0]
              exact if_neg (by decide)
            · exact if_pos (nI_lt (by omega) (by omega))
        · by_cases hT : zSh T
          · refine Or.inl (b_M_soon_45 hT ?_)
            rw [t29, t30]
            refine ⟨fun _ => ⟨fun h8 => ⟨_, rfl, ?_⟩, fun h8 => ⟨_, rfl, ?_⟩⟩, fun h8 => absurd h9 h8⟩
            · rw [if_pos ((nI_leI (by omega) (by omega)).mp h8)] at ha
              exact ha
            · have hle : ¬ Rm ≤ k := fun h7 => h8 (nI_le h7 (by omega))
              rw [if_neg hle] at ha
              rw [pk_sub (by omega), pk_sub (by omega)]
              exact ha
          · exact Or.inr hT
        · by_cases hT : zSh T
          · refine Or.inl (b_M_soon_45 hT ?_)
            rw [t29, t30]
            exact ⟨fun h8 => absurd h8 h9, fun _ => ⟨_, rfl, ha⟩⟩
          · exact Or.inr hT
      · have wSa : jWM Sa i n kd fa fb := y3.J ja rfl
        have fSa : zFl Sa (hF S) (pF S) := hJ.fl.J ja rfl
        have kT : zI (zsI (zThr (zsI Sa 105 2 (zI Sa 105 2 + nI 1))) 130 0 (nI 0)) 130 34 = - nI 1 := (congrFun (ja.2 130 rfl) 34).trans h34
        have L13' : zW 7 m_L_soon 13 [some (.ref 75), some (.int (nI i)), some (.int v2), some (.int (nI how)), some (.ref 161), none] [.float 0] (zThr (zsI Sa 105 2 (zI Sa 105 2 + nI 1))) (zTwoR S m_M_soon [.int (nI i), .int v2, .int (nI how)] (zAns3 lWork S jCore)) := by
          refine b_L_soon_13 hSa ⟨_, rfl, ⟨ja.2 0 rfl, ?_, ?_, hSa⟩, b_M_soon hSa (MA (T := zsI (zThr (zsI Sa 105 2 (zI Sa 105 2 + nI 1))) 130 0 (nI 0)) hSa ((congrFun (ja.2 130 rfl) 14).trans e14) rfl wSa (by show zVl (zI Sa 132) x0 x1 x2 x3 x4 x5; rw [ja.2 132 rfl]; exact hf) (b_M_soon_19 hSa ⟨fun h9 => absurd h9 (by decide), fun _ => ⟨fun h8 => ?_, fun h8 => ?_⟩⟩))⟩
          · show Sa.2.2.2.2.1 0 = S.2.2.2.2.1 0
            rw [ja.1]
          · show Sa.2.2.2.1 0 = S.2.2.2.1 0
            rw [ja.1]
          · exact w_M_may0 (S := zsI (zThr (zsI Sa 105 2 (zI Sa 105 2 + nI 1))) 130 0 (nI 0)) hSa rfl (by omega) (by omega) (b_M_soon_34 hSa ⟨fun h9 => absurd (by decide) h9, fun _ => ⟨_, rfl, zBadJ (l2 := [130, 145, 146, 147]) hJ (by omega) (by decide) ja zJ.rf (fun _ _ => rfl) rfl⟩⟩)
          · refine w_M_plain (S := zsI (zThr (zsI Sa 105 2 (zI Sa 105 2 + nI 1))) 130 0 (nI 0)) y1 hA (by omega) hSa wSa kT fSa (fun Sd jd sd => b_M_soon_27 (jd.sh hSa) ?_)
            have hSd := jd.sh hSa
            rw [hgo]
            refine ⟨fun _ => w_M_may0 hSd ((sd 0 (by omega) (by omega)).trans rfl) (by omega) (by omega) (b_M_soon_34 hSd ⟨fun h9 => absurd (by decide) h9, fun _ => ⟨_, rfl, zBadJ hJ (by omega) (by decide) ja jd sd.keys rfl⟩⟩), fun h9 => absurd ?_ hx⟩
            refine way_in2 (by omega) (by rw [nI_0]; exact h8) (fun h7 => h9 ?_)
            have t1 := zt (k := 1) rfl
            have tA := nI_toInt (n := A) (by omega)
            rw [zlt, zsub (by omega) (by omega), t1, tA] at h7
            rw [zle9, tA]
            omega
        exact b_N_isNot hSa ⟨fun _ => ⟨rfl, b_N_soon_22 hSa (b_N_refuseIf hSa ⟨fun h9 => absurd h9 (by decide), fun _ => ⟨zinl rfl, zinl rfl, L13'⟩⟩)⟩, fun h8 => ⟨fun h9 => absurd (way_in2 (by omega) h8 (Int32.not_lt.mpr h9)) hx, fun _ => ⟨rfl, b_N_soon_22 hSa (b_N_refuseIf hSa ⟨fun h9 => absurd h9 (by decide), fun _ => ⟨zinl rfl, zinl rfl, L13'⟩⟩)⟩⟩⟩
    · exact b_L_soon_16 hS ⟨_, rfl, ⟨rfl, rfl, rfl, hS⟩, b_M_soon hS (MH (T := zsI (zThr (zsI S 105 3 (zI S 105 3 + nI 1))) 130 0 (nI 0)) hS e14 rfl (b_M_soon_14 hS ⟨fun h9 => absurd h9 (by decide), fun _ => w_M_isAllowed (S := zsI (zThr (zsI S 105 3 (zI S 105 3 + nI 1))) 130 0 (nI 0)) hS rfl y1 y3 (by omega) (by omega) hf (fun h9 => absurd h9 nal) (fun _ => b_M_soon_19 hS ⟨fun _ => ⟨_, rfl, (zBad rfl (by decide) (jCore_bad3 hJ)).to3⟩, fun h9 => absurd (by decide) h9⟩)⟩))⟩
  · exact b_L_soon_10 hS ⟨_, rfl, ⟨rfl, rfl, rfl, hS⟩, b_M_soon hS (w_M_isWay (S := zsI (zThr (zsI S 105 0 (zI S 105 0 + nI 1))) 130 0 (nI 0)) hS rfl e14 hwc (fun h9 => by obtain ⟨i, hi, e⟩ := h9; exact absurd e (hx i hi)) (fun _ => b_M_soon_6 hS ⟨fun _ => ⟨_, rfl, (zBad rfl (by decide) (jCore_bad0 hJ)).to3⟩, fun h9 => absurd (by decide) h9⟩))⟩
