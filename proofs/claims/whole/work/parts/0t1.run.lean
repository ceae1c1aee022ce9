/-! Runs: alike, the call -/
theorem jRg_c {x : Int32} {lo hi : Nat} (h : jRg x lo hi) (hh : hi < 2 ^ 31) : x = nI x.toNatClampNeg ∧ x.toNatClampNeg ≤ hi := by
  obtain ⟨n, h1, h2, rfl⟩ := h
  rw [zcl9 (by omega)]
  exact ⟨rfl, h2⟩
def hF (S : ZSt) (j : Nat) : Nat := (zI S 132 (11 + j)).toNatClampNeg
def pF (S : ZSt) (j : Nat) : Nat := (zI S 132 (23 + j)).toNatClampNeg
theorem jCore.hN {S : ZSt} (h : jCore S) : jN (zI S 94) 12 1000000000 (hF S) := fun j hj => by
  obtain ⟨a, b⟩ := h.1.2.1 j hj
  rw [a]
  exact jRg_c b (by omega)
theorem jCore.pN {S : ZSt} (h : jCore S) : jN (zI S 95) 24 3 (pF S) := fun j hj => by
  obtain ⟨a, b⟩ := h.1.2.2.1 j hj
  rw [a]
  exact jRg_c b (by omega)
theorem jCore.hM {S : ZSt} (h : jCore S) : ∀ j, j < 12 → zI S 132 (11 + j) = nI (hF S j) ∧ hF S j ≤ 1000000000 := fun j hj => jRg_c (h.1.2.1 j hj).2 (by omega)
theorem jCore.pM {S : ZSt} (h : jCore S) : ∀ j, j < 24 → zI S 132 (23 + j) = nI (pF S j) ∧ pF S j ≤ 3 := fun j hj => jRg_c (h.1.2.2.1 j hj).2 (by omega)
theorem wN {wc : Nat} {S : ZSt} (hW : ∀ i, i < wc → ∃ o ra rb rc n kd fa fb, zR S 90 i = some o ∧ (zDy S o ∧ zDy S ra ∧ zDy S rb ∧ zDy S rc) ∧ zWy n kd fa fb ∧ jWO S o ra rb rc n kd fa fb ∧ jWM S i n kd fa fb) : ∀ i, i < wc → ∃ o, zR S 90 i = some o := fun i hi => by
  obtain ⟨o, _, _, _, _, _, _, _, ho, _⟩ := hW i hi
  exact ⟨o, ho⟩
theorem zDy.no {S : ZSt} {c : Nat} (h : zDy S c) {l : List Nat} (hl : l.all (fun x => Nat.blt x 162) = true) : zNo l c := by
  obtain ⟨h, -⟩ := h
  unfold zNo
  induction l with
  | nil => rfl
  | cons a l ih =>
    have hl' : (Nat.blt a 162 && l.all (fun x => Nat.blt x 162)) = true := hl
    obtain ⟨h1, h2⟩ := zand hl'
    have h1 : a < 162 := Nat.le_of_ble_eq_true h1
    exact zmemC (by omega) (ih h2)
theorem w_M_isAllowed {q n c x0 x1 x2 x3 x4 x5 : Nat} {kd fa fb : Nat → Nat} {S : ZSt} {Q : ZOut → ZSt → Prop} (hS : zSh S) (h0 : zI S 130 0 = nI 0) (hW : zWy n kd fa fb) (hw : jWM S q n kd fa fb) (hq : q ≤ 6) (hc : 0 < c ∧ c < 10) (hv : zVl (zI S 132) x0 x1 x2 x3 x4 x5) (ok : (∀ k, k < n → okW x0 x1 x2 x3 x4 x5 n kd fa fb k) → Q (.inl (some (.int (nI 1)))) S) (bad : ¬ (∀ k, k < n → okW x0 x1 x2 x3 x4 x5 n kd fa fb k) → Q (.inl (some (.int (nI 0)))) (zsI (zsI S 130 0 (nI c)) 131 3 (zI S 131 3 + nI 1))) : zC m_M_isAllowed [.ref 130, .int (nI q), .int (nI c)] S Q := by
  refine b_M_isAllowed hS (w_M_judged hS hW hw hq hv (fun r hr => b_M_isAllowed_4 hS ?_))
  have hn := hW.2.1
  rcases hr with ⟨e, a⟩ | ⟨k, hk, e, b, -⟩
  · exact ⟨fun h9 => absurd e h9, fun _ => w_M_may1 hS h0 (b_M_isAllowed_12 hS ⟨rfl, ok a⟩)⟩
  · exact ⟨fun _ => w_M_may0 hS h0 hc (by omega) (b_M_isAllowed_12 hS ⟨rfl, bad (fun h9 => b (h9 k hk))⟩), fun h9 => absurd (by rw [e]; exact nI_m1 (by omega)) h9⟩
theorem w_N_refuseBarred {o ra rb rc n x0 x1 x2 x3 x4 x5 : Nat} {kd fa fb : Nat → Nat} {S : ZSt} {Q : ZOut → ZSt → Prop} (hS : zSh S) (hW : zWy n kd fa fb) (hw : jWO S o ra rb rc n kd fa fb) (hv : zVl (zI S 93) x0 x1 x2 x3 x4 x5) (ok : (∀ k, k < n → okW x0 x1 x2 x3 x4 x5 n kd fa fb k) → Q (.inl none) S) (bad : ¬ (∀ k, k < n → okW x0 x1 x2 x3 x4 x5 n kd fa fb k) → Q (.inr 2) (zThr (zsI S 105 3 (zI S 105 3 + nI 1)))) : zC m_N_refuseBarred [.ref 75, .ref o] S Q := by
  refine b_N_refuseBarred hS ⟨hw.1, w_Wa_firstBarred hS hW hw hv (fun r hr => b_N_refuseBarred_5 hS ?_)⟩
  have hn := hW.2.1
  rcases hr with ⟨e, a⟩ | ⟨k, hk, e, b, -⟩
  · exact ⟨fun _ => ok a, fun h9 => absurd e h9⟩
  · exact ⟨fun h9 => absurd (e.symm.trans h9) (nI_m1 (by omega)), fun _ => ⟨zinl rfl, zinl rfl, bad (fun h9 => b (h9 k hk))⟩⟩
theorem zmemT {c a : Nat} {l : List Nat} (h : zmem c (a :: l) = true) : c = a ∨ zmem c l = true := by
  have h1 : (Nat.beq c a || zmem c l) = true := h
  cases hb : Nat.beq c a with
  | true => exact Or.inl (Nat.eq_of_beq_eq_true hb)
  | false =>
    rw [hb, Bool.false_or] at h1
    exact Or.inr h1
theorem zkey {j : Nat} (h : zmem j zKeys = true) : j = 4 ∨ j = 5 ∨ j = 11 ∨ j = 14 ∨ j = 15 ∨ j = 20 ∨ j = 34 := by
  rcases zmemT h with h | h
  · omega
  rcases zmemT h with h | h
  · omega
  rcases zmemT h with h | h
  · omega
  rcases zmemT h with h | h
  · omega
  rcases zmemT h with h | h
  · omega
  rcases zmemT h with h | h
  · omega
  rcases zmemT h with h | h
  · omega
  cases h
def lRun : List Nat := [92, 96, 97, 98, 105, 106, 107, 108, 109, 130, 131, 132, 145, 146, 147]
theorem p_run {v1 v2 : Int32} {S : ZSt} (hS : zSh S) (hJ : jCore S) (hw : jWays S) (h34 : zI S 130 34 = - nI 1) : zC m_L_run [.ref 75, .int v1, .int v2, .ref 161] S (zTwoR S m_M_run [.int v1, .int v2] (zAns3 lRun S jCore)) := by
  obtain ⟨wc, hwc, e6, e14, hW⟩ := hw
  refine b_L_run hS (b_N_run hS (w_N_theWay hS e6 hwc (wN hW) (fun i o hi ev ho => ?_) (fun hx => ?_)))
  · obtain ⟨o', ra, rb, rc, n, kd, fa, fb, ho', ⟨d0, d1, d2, d3⟩, y1, y2, y3⟩ := hW i hi
    obtain rfl : o' = o := Option.some.inj (ho'.symm.trans ho)
    obtain ⟨x0, x1, x2, x3, x4, x5, hf, hg⟩ := hJ.1.1.vl
    subst ev
    have L12 : ¬ (¬ v2 < nI 1 ∧ ¬ nI 4000 < v2) → zW 6 m_L_run 12 [some (.ref 75), some (.int (nI i)), some (.int v2), some (.ref 161), none] [.float 0] (zThr (zsI S 105 2 (zI S 105 2 + nI 1))) (zTwoR S m_M_run [.int (nI i), .int v2] (zAns3 lRun S jCore)) := fun hb => by
      have C : zW 4 m_M_run 12 [some (.ref 130), some (.int (nI i)), some (.int v2), none] [.int (nI 0), .ref 130] (zsI (zThr (zsI S 105 2 (zI S 105 2 + nI 1))) 130 0 (nI 0)) (fun o2 S2 => ∃ b : Value, o2 = .inl (some b) ∧ zAns3 lRun S jCore (nI 2) b S2) := b_M_run_12 hS (w_M_may0 (S := zsI (zThr (zsI S 105 2 (zI S 105 2 + nI 1))) 130 0 (nI 0)) hS rfl (by omega) (by omega) (b_M_run_15 hS ⟨fun _ => ⟨_, rfl, (zBad rfl (by decide) (jCore_bad2 hJ)).to3⟩, fun h9 => absurd (by decide) h9⟩))
      exact b_L_run_12 hS ⟨_, rfl, ⟨rfl, rfl, rfl, hS⟩, b_M_run hS (w_M_isWay (S := zsI (zThr (zsI S 105 2 (zI S 105 2 + nI 1))) 130 0 (nI 0)) hS rfl e14 hwc (fun _ => b_M_run_6 hS ⟨fun h9 => absurd h9 (by decide), fun _ => b_M_within hS ⟨fun _ => ⟨rfl, C⟩, fun h1 => ⟨fun _ => ⟨rfl, C⟩, fun h2 => absurd ⟨h1, h2⟩ hb⟩⟩⟩) (fun h9 => absurd rfl (h9 i hi)))⟩
    refine b_N_run_3 hS (b_N_isNot hS ⟨fun h1 => ⟨rfl, b_N_run_9 hS (b_N_refuseIf hS ⟨fun h9 => absurd h9 (by decide), fun _ => ⟨zinl rfl, zinl rfl, L12 (fun h9 => h9.1 h1)⟩⟩)⟩, fun h1 => ⟨fun h2 => ⟨rfl, ?_⟩, fun h2 => ⟨rfl, b_N_run_9 hS (b_N_refuseIf hS ⟨fun h9 => absurd h9 (by decide), fun _ => ⟨zinl rfl, zinl rfl, L12 (fun h9 => h9.2 (Int32.not_le.mp h2))⟩⟩)⟩⟩⟩)
    have hr := zrgI (a := 1) (b := 4000) rfl rfl h1 h2
    obtain ⟨lim, hlim, rfl⟩ : ∃ k : Nat, k < 2 ^ 31 ∧ v2 = nI k := ⟨v2.toInt.toNat, by omega, zofN (by omega)⟩
    rw [nI_toInt hlim] at hr
    have MM : ∀ {T : ZSt} {Q : ZOut → ZSt → Prop}, zSh T → zI T 130 14 = nI wc → zI T 130 0 = nI 0 → zW 4 m_M_run 15 [some (.ref 130), some (.int (nI i)), some (.int (nI lim)), none] [.int (nI 1)] T Q → zC m_M_isWay [.ref 130, .int (nI i)] T (zback m_M_run 7 5 [some (.ref 130), some (.int (nI i)), some (.int (nI lim)), none] [] (fun i1 l1 s1 S1 => zW 4 m_M_run i1 l1 s1 S1 Q) (fun x S1 => Q (.inr x) S1)) := fun {T Q} hT t14 t0 g => w_M_isWay hT t0 t14 hwc (fun _ => b_M_run_6 hT ⟨fun h9 => absurd h9 (by decide), fun _ => w_M_within1 hT h1 (Int32.not_lt.mpr h2) (b_M_run_12 hT (w_M_may1 hT t0 g))⟩) (fun h9 => absurd rfl (h9 i hi))
    refine b_N_run_9 hS (b_N_refuseIf hS ⟨fun _ => b_N_run_10 hS (w_N_refuseBarred hS y1 y2 hg (fun al => ?_) (fun nal => ?_)), fun h9 => absurd (by decide) h9⟩)
    · have hA := okW_al al
      refine b_N_run_13 hS (w_Ru_startFrom hS hJ.hN hJ.pN (fun Sa ja _ ra' => b_N_run_18 (ja.sh hS) ?_))
      have yw := y2.J ja (d0.no rfl) (d1.no rfl) (d2.no rfl) (d3.no rfl)
      refine w_Ru_follow y1 (d0.no rfl) (d1.no rfl) (d2.no rfl) (d3.no rfl) (ja.sh hS) yw (by omega) y1.1 ra' (fun Sb jb rb' => b_N_run_23 (jb.sh (ja.sh hS)) ?_)
      generalize hgo : go n kd fa fb lim (hF S) (pF S) 0 0 = R at rb'
      obtain ⟨Rh, Rp, Rt, Rm, Re, Rs⟩ := R
      have hSb := jb.sh (ja.sh hS)
      refine w_St_remember hSb (fun Sc jc z1 z2 z3 z4 z5 z6 z7 z8 => b_N_run_28 (jc.sh hSb) (b_L_run_6 (jc.sh hSb) ⟨zinl rfl, ?_⟩))
      have hSc := jc.sh hSb
      have kab : zJ [106, 107, 108, 109] S Sb := ja.tr (zJ3 jb (fun c hc => zmemC (zmemN hc).1 (zmemN (zmemN hc).2).2))
      have fb' : ∀ c, zmem c [106, 107, 108, 109] = false → zI Sb c = zI S c := kab.2
      have fc : ∀ c, zmem c [92, 96, 97, 98] = false → zmem c [106, 107, 108, 109] = false → zI Sc c = zI S c := fun c h1 h2 => (jc.2 c h1).trans (fb' c h2)
      have eo : zI Sc 106 5 = nI Re := by
        rw [jc.2 106 rfl]
        exact rb'.2.2.2.2.1
      rw [eo, cl0]
      refine ⟨_, rfl, ⟨fc 0 rfl rfl, ?_, ?_, hSc⟩, b_M_run hSc (MM (T := zsI (zsL Sc 161 0 (nI Re).toInt64) 130 0 (nI 0)) hSc ?_ rfl (b_M_run_15 hSc ⟨fun h9 => absurd h9 (by decide), fun _ => ?_⟩))⟩
      · show Sc.2.2.2.2.1 0 = S.2.2.2.2.1 0
        rw [jc.1, kab.1]
      · show Sc.2.2.2.1 0 = S.2.2.2.1 0
        rw [jc.1, kab.1]
      · exact (congrFun (fc 130 rfl rfl) 14).trans e14
      have wm : jWM Sc i n kd fa fb := (y3.J kab rfl).J jc rfl
      have hv2 : zVl (zI Sc 132) x0 x1 x2 x3 x4 x5 := by
        rw [fc 132 rfl rfl]
        exact hf
      refine w_M_isAllowed (S := zsI (zsL Sc 161 0 (nI Re).toInt64) 130 0 (nI 0)) hSc rfl y1 wm (by omega) (by omega) hv2 (fun _ => b_M_run_20 hSc ⟨fun _ => ?_, fun h9 => absurd (by decide) h9⟩) (fun h9 => absurd al h9)
      refine w_M_fromFlock (S := zsI (zsL Sc 161 0 (nI Re).toInt64) 130 0 (nI 0)) hSc (fun Sf jf g1 g2 => b_M_run_25 (jf.sh hSc) ?_)
      have f132 : zI Sf 132 = zI S 132 := (jf.2 132 rfl).trans (fc 132 rfl rfl)
      have j0 : zJ [130] (zsL Sc 161 0 (nI Re).toInt64) (zsI (zsL Sc 161 0 (nI Re).toInt64) 130 0 (nI 0)) := zJ.rf.I rfl
      have c132 : zI (zsI (zsL Sc 161 0 (nI Re).toInt64) 130 0 (nI 0)) 132 = zI S 132 := fc 132 rfl rfl
      have hSf := jf.sh hSc
      have wt : jWM (zsI (zsL Sc 161 0 (nI Re).toInt64) 130 0 (nI 0)) i n kd fa fb := wm
      refine w_M_goes y1 hA (by omega) (h := hF S) (p := pF S) hSf (wt.J jf rfl) (by omega) ?_ (fun j hj => ?_) (fun j hj => ?_) (fun Sg jg sg rg => b_M_run_31 (jg.sh hSf) ⟨zinl rfl, zinl rfl, zinl rfl, zinl rfl, zinl rfl, ?_⟩)
      · rw [jf.2 130 rfl, zI_o (by omega)]
        exact (congrFun (fc 130 rfl rfl) 34).trans h34
      · rw [g1 j hj, c132]
        exact hJ.hM j hj
      · rw [g2 j hj, c132]
        exact hJ.pM j hj
      have hSg := jg.sh hSf
      rw [hgo] at rg
      obtain ⟨q1, q2, q3, q4, q5, q6⟩ := rg
      obtain ⟨u1, u2, u3, u4, u5, u6⟩ := rb'
      rw [q3, q4, q5, q6]
      have g132 : zI Sg 132 = zI S 132 := (jg.2 132 rfl).trans f132
      refine w_M_run_62 12 0 (S := zsI (zsI (zsI (zsI (zsI Sg 132 6 (nI 1)) 132 7 (nI Re)) 132 8 (nI Rm)) 132 9 (nI Rt)) 132 10 (nI Rs)) hSg (by omega) (zCp.start ovF_0) (fun Sh ah => w_M_run_79 24 0 (zSh_of ah.1 hSg) (by omega) (zCp.start ovF_0) (fun Si ai => ?_))
      have hSh := zSh_of ah.1 hSg
      have i130 : zI Si 130 = zI Sg 130 := (ai.2.1 130 (by omega)).trans (ah.2.1 130 (by omega))
      have ic : ∀ c, c ≠ 132 → zI Si c = zI Sg c := fun c hc => by
        rw [ai.2.1 c hc, ah.2.1 c hc, zI_ne _ _ hc, zI_ne _ _ hc, zI_ne _ _ hc, zI_ne _ _ hc, zI_ne _ _ hc]
      have iS : ∀ c, c ≠ 132 → zmem c [145, 146, 147, 130] = false → zI Si c = zI Sc c := fun c h1 h2 => by
        obtain ⟨m1, h2⟩ := zmemN h2
        obtain ⟨m2, h2⟩ := zmemN h2
        obtain ⟨m3, h2⟩ := zmemN h2
        obtain ⟨m4, h2⟩ := zmemN h2
        rw [ic c h1, jg.2 c (zmemC m4 (zmemC m2 (zmemC m3 rfl))), jf.2 c (zmemC m1 (zmemC m3 rfl)), zI_ne _ _ m4]
        rfl
      have base : ∀ j, zI Si 132 j = ovF (ovF (zI (zsI (zsI (zsI (zsI (zsI Sg 132 6 (nI 1)) 132 7 (nI Re)) 132 8 (nI Rm)) 132 9 (nI Rt)) 132 10 (nI Rs)) 132) (zI Sg 146) 47 12) (zI Sg 147) 59 24 j := fun j => by
        rw [ai.2.2]
        unfold ovF
        rw [ah.2.2, ah.2.1 147 (by omega)]
        rfl
      have keep : ∀ j, j < 6 ∨ (11 ≤ j ∧ j < 47) ∨ 83 ≤ j → zI Si 132 j = zI S 132 j := fun j hj => by
        rw [base, ovF_out (by omega), ovF_out (by omega), zI_o (by omega), zI_o (by omega), zI_o (by omega), zI_o (by omega), zI_o (by omega), g132]
      have at5 : ∀ j, 6 ≤ j → j < 11 → zI Si 132 j = zI (zsI (zsI (zsI (zsI (zsI Sg 132 6 (nI 1)) 132 7 (nI Re)) 132 8 (nI Rm)) 132 9 (nI Rt)) 132 10 (nI Rs)) 132 j := fun j h1 h2 => by
        rw [base, ovF_out (by omega), ovF_out (by omega)]
      have hk : ∀ j, zmem j zKeys = true → zI Si 130 j = zI S 130 j := fun j hj => by
        have hj' : j ≠ 0 ∧ (j < 29 ∨ 33 < j) ∧ j ≠ 36 := by
          have := zkey hj
          omega
        rw [i130, sg j hj'.2.1 hj'.2.2, jf.2 130 rfl, zI_o hj'.1]
        exact congrFun (fc 130 rfl rfl) j
      refine ⟨_, rfl, _, rfl, ?_, fun _ => ?_, zOnly3.mk (Sc := Sc) (x := (nI Re).toInt64) ?_ ?_ hk, ?_⟩
      · rw [i130, sg 0 (by omega) (by omega), jf.2 130 rfl, zI_s]
      · rw [ah.2.1 130 (by omega)]
        show Si.2.1 161 0 = _
        rw [ai.1, ah.1]
        show Sg.2.1 161 0 = (zI Sg 130 29).toInt64
        rw [jg.1, jf.1, q5]
        rfl
      · exact (zJ3 kab (fun c hc => by
          obtain ⟨m1, hc⟩ := zmemN hc
          obtain ⟨m2, hc⟩ := zmemN hc
          obtain ⟨m3, hc⟩ := zmemN hc
          obtain ⟨m4, hc⟩ := zmemN hc
          obtain ⟨m5, hc⟩ := zmemN hc
          obtain ⟨m6, hc⟩ := zmemN hc
          obtain ⟨m7, hc⟩ := zmemN hc
          obtain ⟨m8, hc⟩ := zmemN hc
          obtain ⟨m9, hc⟩ := zmemN hc
          exact zmemC m6 (zmemC m7 (zmemC m8 (zmemC m9 rfl))))).tr (zJ3 jc (fun c hc => by
          obtain ⟨m1, hc⟩ := zmemN hc
          obtain ⟨m2, hc⟩ := zmemN hc
          obtain ⟨m3, hc⟩ := zmemN hc
          obtain ⟨m4, hc⟩ := zmemN hc
          exact zmemC m1 (zmemC m2 (zmemC m3 (zmemC m4 rfl)))))
      · refine ⟨ai.1.trans (ah.1.trans (jg.1.trans jf.1)), fun c hc => ?_⟩
        obtain ⟨m1, hc⟩ := zmemN hc
        obtain ⟨m2, hc⟩ := zmemN hc
        obtain ⟨m3, hc⟩ := zmemN hc
        obtain ⟨m4, hc⟩ := zmemN hc
        obtain ⟨m5, hc⟩ := zmemN hc
        obtain ⟨m6, hc⟩ := zmemN hc
        obtain ⟨m7, hc⟩ := zmemN hc
        obtain ⟨m8, hc⟩ := zmemN hc
        obtain ⟨m9, hc⟩ := zmemN hc
        obtain ⟨m10, hc⟩ := zmemN hc
        obtain ⟨m11, hc⟩ := zmemN hc
        obtain ⟨m12, hc⟩ := zmemN hc
        obtain ⟨m13, hc⟩ := zmemN hc
        obtain ⟨m14, hc⟩ := zmemN hc
        obtain ⟨m15, hc⟩ := zmemN hc
        exact iS c m12 (zmemC m13 (zmemC m14 (zmemC m15 (zmemC m10 rfl))))
      · obtain ⟨⟨ja', jb', jc', jd', je', jf', jg', jh', ji'⟩, jr'⟩ := hJ
        have i0 : ∀ c, c ≠ 132 → zmem c [145, 146, 147, 130] = false → zmem c [92, 96, 97, 98] = false → zmem c [106, 107, 108, 109] = false → zI Si c = zI S c := fun c a1 a2 a3 a4 => (iS c a1 a2).trans (fc c a3 a4)
        refine ⟨?_, fun j hj => ?_⟩
        · unfold jMain jSt
          rw [i0 93 (by omega) rfl rfl rfl, i0 94 (by omega) rfl rfl rfl, i0 95 (by omega) rfl rfl rfl, iS 92 (by omega) rfl, iS 96 (by omega) rfl, iS 97 (by omega) rfl, iS 98 (by omega) rfl, i0 99 (by omega) rfl rfl rfl, i0 100 (by omega) rfl rfl rfl, i0 101 (by omega) rfl rfl rfl, i0 102 (by omega) rfl rfl rfl, i0 103 (by omega) rfl rfl rfl]
          have e6' : zI Si 132 6 = nI 1 := by
            rw [at5 6 (by omega) (by omega)]
            rfl
          refine ⟨ja'.keep fun j hj => keep j (by omega), jb'.keep fun j h1 h2 => keep j (by omega), jc'.keep fun j h1 h2 => keep j (by omega), ⟨⟨1, by omega, by omega, e6'⟩, z1.trans e6'.symm, fun _ => ⟨fun j hj => ?_, fun j hj => ?_, fun j hj => ?_⟩⟩, je'.keep fun j h1 h2 => keep j (by omega), jf'.keep fun j h1 h2 => keep j (by omega), jg'.keep fun j h1 h2 => keep j (by omega), jh'.keep fun j h1 h2 => keep j (by omega), ji'.keep fun j h1 => keep j (by omega)⟩
          · rw [at5 (7 + j) (by omega) (by omega)]
            rcases (show j = 0 ∨ j = 1 ∨ j = 2 ∨ j = 3 by omega) with rfl | rfl | rfl | rfl
            · exact z3.trans u5
            · exact z4.trans u4
            · exact z5.trans u3
            · exact z6.trans u6
          · rw [base, ovF_out (by omega), ovF_in hj, z7 j hj, (u1 j hj).1, (q1 j hj).1]
            exact ⟨rfl, _, by omega, (q1 j hj).2, rfl⟩
          · rw [base, ovF_in hj, z8 j hj, (u2 j hj).1, (q2 j hj).1]
            exact ⟨rfl, _, by omega, (q2 j hj).2, rfl⟩
        · rw [i0 105 (by omega) rfl rfl rfl, i0 131 (by omega) rfl rfl rfl]
          exact jr' j hj
    · exact b_L_run_15 hS ⟨_, rfl, ⟨rfl, rfl, rfl, hS⟩, b_M_run hS (MM (T := zsI (zThr (zsI S 105 3 (zI S 105 3 + nI 1))) 130 0 (nI 0)) hS e14 rfl (b_M_run_15 hS ⟨fun h9 => absurd h9 (by decide), fun _ => w_M_isAllowed (S := zsI (zThr (zsI S 105 3 (zI S 105 3 + nI 1))) 130 0 (nI 0)) hS rfl y1 y3 (by omega) (by omega) hf (fun h9 => absurd h9 nal) (fun _ => b_M_run_20 hS ⟨fun h9 => absurd (by decide) h9, fun _ => ⟨_, rfl, (zBad rfl (by decide) (jCore_bad3 hJ)).to3⟩⟩)⟩))⟩
  · exact b_L_run_9 hS ⟨_, rfl, ⟨rfl, rfl, rfl, hS⟩, b_M_run hS (w_M_isWay (S := zsI (zThr (zsI S 105 0 (zI S 105 0 + nI 1))) 130 0 (nI 0)) hS rfl e14 hwc (fun h9 => by obtain ⟨i, hi, e⟩ := h9; exact absurd e (hx i hi)) (fun _ => b_M_run_6 hS ⟨fun _ => ⟨_, rfl, (zBad rfl (by decide) (jCore_bad0 hJ)).to3⟩, fun h9 => absurd (by decide) h9⟩))⟩
