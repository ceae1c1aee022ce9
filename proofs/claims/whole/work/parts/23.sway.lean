/-! way: the step -/
theorem jTape.c {S S2 : ZSt} (h : jTape S) (e6 : zI S2 76 = zI S 76) (e7 : zI S2 77 = zI S 77) (e0 : zI S2 130 = zI S 130) (e4 : zI S2 134 = zI S 134) : jTape S2 := by
  unfold jTape
  rw [e6, e7, e0, e4]
  exact h
set_option maxHeartbeats 4000000 in
theorem s_way {L : Nat} : t_way (zInv L) := fun N S v1 h => by
  have hS := h.1
  have hD := h.D
  have hJ := h.2.1
  have hC := h.2.2.1.1
  obtain ⟨len, b, hl, e1, e5, hb⟩ := h.2.2.1.2.1.b
  obtain ⟨wc, hwc, e6, e14, hW⟩ := h.W
  by_cases hv : ∃ m, m ≤ len ∧ v1 = nI m
  · obtain ⟨m, hm, rfl⟩ := hv
    have kp : ∀ {S1 : ZSt} {r : Int64}, zJ [76, 82, 83, 84, 85] S S1 → zKp S (zsL S1 161 0 r) := fun {S1 r} j1 => ⟨j1.2 0 rfl, by show S1.2.2.2.2.1 0 = S.2.2.2.2.1 0; rw [j1.1], by show S1.2.2.2.1 0 = S.2.2.2.1 0; rw [j1.1], j1.sh hS⟩
    refine b_L_way hS (w_N_way hS hC e1 hl hm (fun j hj => ⟨(hb j (by omega)).1, (hb j (by omega)).2.1⟩) e6 hwc (fun c6 S1 j1' a1 a8 => ?_) (fun c6 k t hw S1 j1 a1 a8 => ?_) (fun c6 kd fa fb n hw hy Sx jx a1 a8 S4 ad => ?_))
    · have j1 : zJ [76, 82, 83, 84, 85] S S1 := ⟨j1'.1, fun c hc => j1'.2 c (zsub_of rfl c hc)⟩
      have hC1 : zCst S1 := hC.J j1 rfl
      have c130 : zI (zsL S1 161 0 (- nI 1).toInt64) 130 = zI S 130 := j1.2 130 rfl
      have c134 : zI (zsL S1 161 0 (- nI 1).toInt64) 134 = zI S 134 := j1.2 134 rfl
      refine b_L_way_5 (j1.sh hS) ⟨zinl rfl, _, rfl, kp j1, w_M_way (T := zsL S1 161 0 (- nI 1).toInt64) (b := b) (wc := wc) (show zSh (zsL S1 161 0 (- nI 1).toInt64) from j1.sh hS) hC1 (by rw [c130]; exact e5) hl hm (fun j hj => ⟨(hb j (by omega)).1, by rw [c134]; exact (hb j (by omega)).2.2⟩) (by rw [c130]; exact e14) hwc (fun _ S2 j2 f2 b0 b5 b11 => ?_) (fun c => by omega) (fun c => by omega)⟩
      rw [c130] at f2
      obtain ⟨u1, u2, u3⟩ := zVal_fin h (⟨j1'.1, fun c hc => j1'.2 c (zsub_of rfl c hc)⟩ : zJ [76, 78, 79, 80, 92, 93, 94, 95] S S1) (⟨j2.1, fun c hc => j2.2 c (zsub_of rfl c hc)⟩ : zJ [130, 132, 135] (zsL S1 161 0 (- nI 1).toInt64) S2) f2 a1 b5 (by rw [a8, b11]) (fun _ => jCore_cong (fun c hc => (j2.2 c (zdis_of rfl c hc)).trans (j1'.2 c (zdis_of rfl c hc))) hJ)
      exact ⟨_, rfl, _, rfl, b0, fun _ => u2, u1, u3⟩
    · have hC1 : zCst S1 := hC.J j1 rfl
      have c130 : zI (zsL S1 161 0 (nI k - nI 10).toInt64) 130 = zI S 130 := j1.2 130 rfl
      have c134 : zI (zsL S1 161 0 (nI k - nI 10).toInt64) 134 = zI S 134 := j1.2 134 rfl
      have c136 : zI (zsL S1 161 0 (nI k - nI 10).toInt64) 136 = zI S 136 := j1.2 136 rfl
      have c137 : zI (zsL S1 161 0 (nI k - nI 10).toInt64) 137 = zI S 137 := j1.2 137 rfl
      have c138 : zI (zsL S1 161 0 (nI k - nI 10).toInt64) 138 = zI S 138 := j1.2 138 rfl
      have c139 : zI (zsL S1 161 0 (nI k - nI 10).toInt64) 139 = zI S 139 := j1.2 139 rfl
      refine b_L_way_5 (j1.sh hS) ⟨zinl rfl, _, rfl, kp j1, w_M_way (T := zsL S1 161 0 (nI k - nI 10).toInt64) (b := b) (wc := wc) (show zSh (zsL S1 161 0 (nI k - nI 10).toInt64) from j1.sh hS) hC1 (by rw [c130]; exact e5) hl hm (fun j hj => ⟨(hb j (by omega)).1, by rw [c134]; exact (hb j (by omega)).2.2⟩) (by rw [c130]; exact e14) hwc (fun c => by omega) (fun _ k' t' hw' S2 j2 f2 f14 f136 fr b0 b5 b11 => ?_) (fun _ kd fa fb n hw' => by rw [hw] at hw'; cases hw')⟩
      rw [hw] at hw'
      cases hw'
      rw [c130] at f2
      rw [c136] at f136
      rw [c137, c138, c139] at fr
      obtain ⟨u1, u2, u3⟩ := zWay_bad h e6 hwc j1 j2 f2 f14 f136 fr a1 b5 (by rw [a8, b11])
      exact ⟨_, rfl, _, rfl, b0, fun _ => u2, u1, u3⟩
    · have sx : zSh Sx := jx.sh hS
      have hx : 162 ≤ zx Sx := sx.2.2.2
      have hSg : zSh (zsR S4 90 wc (some (zx Sx))) := (ad.1.sh sx).R (tn90 c6)
      have o4 : ∀ c, c < 162 → zI S4 c = zI Sx c := fun c hc => (ad.1.2.1 c (by omega)).1
      obtain ⟨S1, eS1⟩ : ∃ S1, S1 = zsI (zsR S4 90 wc (some (zx Sx))) 75 6 (nI (wc + 1)) := ⟨_, rfl⟩
      have hS1 : zSh S1 := by
        rw [eS1]
        exact hSg
      have T4 : ∀ c, c ≠ 75 → zI S1 c = zI S4 c := fun c hc => by
        rw [eS1]
        exact zI_ne (S := zsR S4 90 wc (some (zx Sx))) _ _ hc
      have T0 : ∀ c, c < 162 → c ≠ 75 → zmem c [76, 82, 83, 84, 85] = false → zI S1 c = zI S c := fun c h1 h2 h3 => by
        rw [T4 c h2, o4 c h1]
        exact jx.2 c h3
      have T75 : ∀ j, j ≠ 6 → zI S1 75 j = zI S4 75 j := fun j hj => by
        rw [eS1]
        exact zI_o (S := zsR S4 90 wc (some (zx Sx))) hj
      have T756 : zI S1 75 6 = nI (wc + 1) := by
        rw [eS1]
        exact zI_s
      have n0 : zn S1 0 = zn S 0 := by
        rw [eS1]
        exact (ad.1.2.1 0 (by omega)).2.2.1.trans (by show Sx.2.2.2.1 0 = S.2.2.2.1 0; rw [jx.1])
      have c0 : zc S1 0 = zc S 0 := by
        rw [eS1]
        exact (ad.1.2.1 0 (by omega)).2.2.2.trans (by show Sx.2.2.2.2.1 0 = S.2.2.2.2.1 0; rw [jx.1])
      have r2 : S1.2.2 = (zsR S4 90 wc (some (zx Sx))).2.2 := by
        rw [eS1]
        rfl
      rw [← eS1]
      clear eS1
      have hC1 : zCst S1 := fun c j g1 g2 => by
        rw [T0 c (by omega) (by omega) (zlst rfl g2)]
        exact hC c j g1 g2
      have c130 : zI (zsL S1 161 0 (nI wc).toInt64) 130 = zI S 130 := T0 130 (by omega) (by omega) rfl
      have c134 : zI (zsL S1 161 0 (nI wc).toInt64) 134 = zI S 134 := T0 134 (by omega) (by omega) rfl
      refine b_L_way_5 hS1 ⟨zinl rfl, _, rfl, ⟨T0 0 (by omega) (by omega) rfl, c0, n0, hS1⟩, w_M_way (T := zsL S1 161 0 (nI wc).toInt64) (b := b) (wc := wc) (show zSh (zsL S1 161 0 (nI wc).toInt64) from hS1) hC1 (by rw [c130]; exact e5) hl hm (fun j hj => ⟨(hb j (by omega)).1, by rw [c134]; exact (hb j (by omega)).2.2⟩) (by rw [c130]; exact e14) hwc (fun c => by omega) (fun _ k' t' hw' => by rw [hw] at hw'; cases hw') (fun _ kd' fa' fb' n' hw' S2 j2 f2 f14 f136 fr b0 b5 b11 jw => ?_)⟩
      rw [hw] at hw'
      cases hw'
      have hS2 : zSh S2 := j2.sh (show zSh (zsL S1 161 0 (nI wc).toInt64) from hS1)
      have q1 : S2.2 = (zsL S1 161 0 (nI wc).toInt64).2 := j2.1
      have q2 : S2.2.2 = (zsR S4 90 wc (some (zx Sx))).2.2 := by
        rw [q1]
        exact r2
      have oS : ∀ c, zmem c [130, 136, 137, 138, 139] = false → zI S2 c = zI S1 c := fun c hc => j2.2 c hc
      refine ⟨_, rfl, _, rfl, b0, fun _ => ?_, hS2, ?_⟩
      · show S2.2.1 161 0 = (nI wc).toInt64
        rw [q1]
        rfl
      · have p76 : zI (zwI Sx 76 (zI S 76)) 76 = zI S 76 := zWs
        have po : ∀ c, c ≠ 76 → zI (zwI Sx 76 (zI S 76)) c = zI Sx c := fun c hc => zWo hc
        have p4o : ∀ c, c ≠ 76 → zI (zwI S4 76 (zI S 76)) c = zI S4 c := fun c hc => zWo hc
        have pS : ∀ c, zmem c [82, 83, 84, 85] = false → zI (zwI Sx 76 (zI S 76)) c = zI S c := fun c hc => by
          by_cases e : c = 76
          · rw [e]
            exact p76
          · rw [po c e]
            exact jx.2 c (zmemC e hc)
        have px : (zwI Sx 76 (zI S 76)).2.2 = S.2.2 := by
          show Sx.2.2 = S.2.2
          rw [jx.1]
        have k1 : zFT S (zwI Sx 76 (zI S 76)) := zJ.ft px pS rfl rfl (fun j _ => by rw [pS 130 rfl])
        have hBx : zBase (zwI Sx 76 (zI S 76)) := k1.base h.2.2.1 (h.2.2.1.2.1.c p76 (pS 77 rfl) (pS 130 rfl) (pS 134 rfl)) (by rw [p76, pS 130 rfl]; exact h.2.2.1.2.2.1) (h.ic (by rw [pS 75 rfl]) (by rw [pS 130 rfl]))
        have ad' := ad.tp (g := zI S 76) hx
        have c4 : ∀ c, c ≠ 75 → zI S1 c = zI S4 c := T4
        refine zAd.inv h (Or.inl k1) hBx (show zSh (zwI Sx 76 (zI S 76)) from sx) (fun c hc => pS c (zdis_of rfl c hc)) ⟨by show Sx.2.2.2.2.1 0 = S.2.2.2.2.1 0; rw [jx.1], by show Sx.2.2.2.1 0 = S.2.2.2.1 0; rw [jx.1], by show Sx.2.2.2.2.2.2.1 ≤ S.2.2.2.2.2.2.1 + 1; rw [jx.1]; omega, by show Sx.2.2.2.2.2.2.2 ≤ S.2.2.2.2.2.2.2 + 50; rw [jx.1]; omega⟩ ad' (by rw [pS 75 rfl]; exact e6) c6 hy q2 (fun c hc => ?_) (fun c hc => ?_) ⟨fun j hj => ?_, fun q hq => ?_, fun q hq => ?_⟩ (fun j hj => ?_) ?_ f14 jw (jTape0 ?_ b5) ?_
        · have n75 : c ≠ 75 := fun e => by rw [e] at hc; cases hc
          have n76 : c ≠ 76 := fun e => by rw [e] at hc; cases hc
          rw [oS c (zsub_of rfl c hc), c4 c n75, p4o c n76]
        · have n75 : c ≠ 75 := fun e => by rw [e] at hc; cases hc
          have n76 : c ≠ 76 := fun e => by rw [e] at hc; cases hc
          rw [oS c (zdis_of rfl c hc), c4 c n75, p4o c n76]
        · have hj' : zmem j (14 :: lTs) = false := by
            rcases zmemT hj with e | hj
            · rw [e]
              rfl
            · rcases zmemT hj with e | hj
              · rw [e]
                rfl
              · rcases zmemT hj with e | hj
                · rw [e]
                  rfl
                · rcases zmemT hj with e | hj
                  · rw [e]
                    rfl
                  · cases hj
          have y := f2 j hj'
          rw [y, p4o 130 (by omega)]
          exact congrFun (c4 130 (by omega)) j
        · rw [f136 q (by omega), p4o 136 (by omega)]
          exact congrFun (c4 136 (by omega)) q
        · obtain ⟨y1, y2, y3⟩ := fr q hq
          rw [y1, y2, y3, p4o 137 (by omega), p4o 138 (by omega), p4o 139 (by omega)]
          exact ⟨congrFun (c4 137 (by omega)) q, congrFun (c4 138 (by omega)) q, congrFun (c4 139 (by omega)) q⟩
        · rw [oS 75 rfl, T75 j (by omega), p4o 75 (by omega)]
        · rw [oS 75 rfl]
          exact T756
        · rw [oS 76 rfl, c4 76 (by omega), o4 76 (by omega)]
          exact a1
        · rw [oS 76 rfl, c4 76 (by omega), o4 76 (by omega), a8, b11]
  · exact zC.imp (y_way0 hS hD hJ e1 e5 hl (fun i hi e => hv ⟨i, hi, e⟩)) (fun o S1 r => r.imp (fun kk b S2 a => zAns4.P h a))
