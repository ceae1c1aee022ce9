/-! task: the step, given what the reading of a C does -/
set_option maxHeartbeats 4000000 in
theorem s_taskR (rc : rcOK) {L : Nat} : t_task (zInv L) := fun N S v1 h => by
  have hS := h.1
  have hD := h.D
  have hJ := h.2.1
  have hC := h.2.2.1.1
  obtain ⟨len, b, hl, e1, e5, hb⟩ := h.2.2.1.2.1.b
  obtain ⟨tc, st, htc, hst, e7, e15, e20, -, -⟩ := h.2.2.1.2.2.2.2.1
  by_cases hv : ∃ m, m ≤ len ∧ v1 = nI m
  · obtain ⟨m, hm, rfl⟩ := hv
    have kp : ∀ {S1 : ZSt} {r : Int64}, zJ [76, 86, 87, 88, 89] S S1 → zKp S (zsL S1 161 0 r) := fun {S1 r} j1 => ⟨j1.2 0 rfl, by show S1.2.2.2.2.1 0 = S.2.2.2.2.1 0; rw [j1.1], by show S1.2.2.2.1 0 = S.2.2.2.1 0; rw [j1.1], j1.sh hS⟩
    refine b_L_task hS (w_N_task rc hS hC e1 hl hm (fun j hj => ⟨(hb j (by omega)).1, (hb j (by omega)).2.1⟩) e7 htc (fun c6 S1 j1' a1 a8 => ?_) (fun c6 k t hw S1 j1 a1 a8 => ?_) (fun c6 cs hw hy hl4 Sx jx a1 a8 S4 ad => ?_))
    · have j1 : zJ [76, 86, 87, 88, 89] S S1 := ⟨j1'.1, fun c hc => j1'.2 c (zsub_of rfl c hc)⟩
      have hC1 : zCst S1 := hC.J j1 rfl
      have c130 : zI (zsL S1 161 0 (- nI 1).toInt64) 130 = zI S 130 := j1.2 130 rfl
      have c134 : zI (zsL S1 161 0 (- nI 1).toInt64) 134 = zI S 134 := j1.2 134 rfl
      refine b_L_task_5 (j1.sh hS) ⟨zinl rfl, _, rfl, kp j1, w_M_task (T := zsL S1 161 0 (- nI 1).toInt64) (b := b) (tc := tc) (st := st) (show zSh (zsL S1 161 0 (- nI 1).toInt64) from j1.sh hS) hC1 (by rw [c130]; exact e5) hl hm (fun j hj => ⟨(hb j (by omega)).1, by rw [c134]; exact (hb j (by omega)).2.2⟩) (by rw [c130]; exact e15) htc (by rw [c130]; exact e20) hst (fun _ S2 j2 f2 b0 b5 b11 => ?_) (fun c => by omega) (fun c => by omega)⟩
      rw [c130] at f2
      obtain ⟨u1, u2, u3⟩ := zVal_fin h (⟨j1'.1, fun c hc => j1'.2 c (zsub_of rfl c hc)⟩ : zJ [76, 78, 79, 80, 92, 93, 94, 95] S S1) (⟨j2.1, fun c hc => j2.2 c (zsub_of rfl c hc)⟩ : zJ [130, 132, 135] (zsL S1 161 0 (- nI 1).toInt64) S2) f2 a1 b5 (by rw [a8, b11]) (fun _ => jCore_cong (fun c hc => (j2.2 c (zdis_of rfl c hc)).trans (j1'.2 c (zdis_of rfl c hc))) hJ)
      exact ⟨_, rfl, _, rfl, b0, fun _ => u2, u1, u3⟩
    · have hC1 : zCst S1 := hC.J j1 rfl
      have c130 : zI (zsL S1 161 0 (nI k - nI 10).toInt64) 130 = zI S 130 := j1.2 130 rfl
      have c134 : zI (zsL S1 161 0 (nI k - nI 10).toInt64) 134 = zI S 134 := j1.2 134 rfl
      have c140 : zI (zsL S1 161 0 (nI k - nI 10).toInt64) 140 = zI S 140 := j1.2 140 rfl
      have c141 : zI (zsL S1 161 0 (nI k - nI 10).toInt64) 141 = zI S 141 := j1.2 141 rfl
      have c142 : zI (zsL S1 161 0 (nI k - nI 10).toInt64) 142 = zI S 142 := j1.2 142 rfl
      have c143 : zI (zsL S1 161 0 (nI k - nI 10).toInt64) 143 = zI S 143 := j1.2 143 rfl
      refine b_L_task_5 (j1.sh hS) ⟨zinl rfl, _, rfl, kp j1, w_M_task (T := zsL S1 161 0 (nI k - nI 10).toInt64) (b := b) (tc := tc) (st := st) (show zSh (zsL S1 161 0 (nI k - nI 10).toInt64) from j1.sh hS) hC1 (by rw [c130]; exact e5) hl hm (fun j hj => ⟨(hb j (by omega)).1, by rw [c134]; exact (hb j (by omega)).2.2⟩) (by rw [c130]; exact e15) htc (by rw [c130]; exact e20) hst (fun c => by omega) (fun _ k' t' hw' S2 j2 f2 f15 f20 f142 f140 f143 b0 b5 b11 => ?_) (fun _ cs hw' => by rw [hw] at hw'; cases hw')⟩
      rw [hw] at hw'
      cases hw'
      rw [c130] at f2
      rw [c142] at f142
      rw [c140, c141] at f140
      rw [c143] at f143
      obtain ⟨u1, u2, u3⟩ := zTask_bad h e7 htc e20 hst j1 j2 f2 f15 f20 f142 f140 f143 a1 b5 (by rw [a8, b11])
      exact ⟨_, rfl, _, rfl, b0, fun _ => u2, u1, u3⟩
    · have sx : zSh Sx := jx.sh hS
      have hx : 162 ≤ zx Sx := sx.2.2.2
      have xe : zx Sx = zx S := by show Sx.2.2.2.2.2.1 = S.2.2.2.2.2.1; rw [jx.1]
      have xR : zR Sx = zR S := by show Sx.2.2.1 = S.2.2.1; rw [jx.1]
      have xN : zn Sx = zn S := by show Sx.2.2.2.1 = S.2.2.2.1; rw [jx.1]
      have xC : zc Sx = zc S := by show Sx.2.2.2.2.1 = S.2.2.2.2.1; rw [jx.1]
      have xU : zu Sx = zu S := by show Sx.2.2.2.2.2.2.1 = S.2.2.2.2.2.2.1; rw [jx.1]
      have xZ : zz Sx = zz S := by show Sx.2.2.2.2.2.2.2 = S.2.2.2.2.2.2.2; rw [jx.1]
      obtain ⟨⟨ag, ax⟩, at', ⟨ar, an⟩, au, az⟩ := ad
      rw [xe] at ax at' ar an
      rw [xU] at au
      rw [xZ] at az
      have hSg : zSh (zsR S4 91 tc (some (zx Sx))) := (ag.sh sx).R (tn91 tc c6)
      have o4 : ∀ c, c < zx S → zI S4 c = zI Sx c ∧ zR S4 c = zR S c ∧ zn S4 c = zn S c ∧ zc S4 c = zc S c := fun c hc => by
        obtain ⟨y1, y2, y3, y4⟩ := ag.2.1 c (by omega)
        exact ⟨y1, by rw [y2, xR], by rw [y3, xN], by rw [y4, xC]⟩
      obtain ⟨S1, eS1⟩ : ∃ S1, S1 = zsI (zsR S4 91 tc (some (zx Sx))) 75 7 (nI (tc + 1)) := ⟨_, rfl⟩
      have hS1 : zSh S1 := by
        rw [eS1]
        exact hSg
      have T4 : ∀ c, c ≠ 75 → zI S1 c = zI S4 c := fun c hc => by
        rw [eS1]
        exact zI_ne (S := zsR S4 91 tc (some (zx Sx))) _ _ hc
      have T0 : ∀ c, c < zx S → c ≠ 75 → zmem c [76, 86, 87, 88, 89] = false → zI S1 c = zI S c := fun c h1 h2 h3 => by
        rw [T4 c h2, (o4 c h1).1]
        exact jx.2 c h3
      have T75 : ∀ j, j ≠ 7 → zI S1 75 j = zI S 75 j := fun j hj => by
        rw [eS1, ← jx.2 75 rfl, ← (o4 75 (by omega)).1]
        exact zI_o (S := zsR S4 91 tc (some (zx Sx))) hj
      have T757 : zI S1 75 7 = nI (tc + 1) := by
        rw [eS1]
        exact zI_s
      have r2 : S1.2.2 = (zsR S4 91 tc (some (zx Sx))).2.2 := by
        rw [eS1]
        rfl
      rw [← eS1]
      clear eS1
      have hC1 : zCst S1 := fun c j g1 g2 => by
        rw [T0 c (by omega) (by omega) (zlst rfl g2)]
        exact hC c j g1 g2
      have c130 : zI (zsL S1 161 0 (nI tc).toInt64) 130 = zI S 130 := T0 130 (by omega) (by omega) rfl
      have c134 : zI (zsL S1 161 0 (nI tc).toInt64) 134 = zI S 134 := T0 134 (by omega) (by omega) rfl
      have c140 : zI (zsL S1 161 0 (nI tc).toInt64) 140 = zI S 140 := T0 140 (by omega) (by omega) rfl
      have c141 : zI (zsL S1 161 0 (nI tc).toInt64) 141 = zI S 141 := T0 141 (by omega) (by omega) rfl
      have c142 : zI (zsL S1 161 0 (nI tc).toInt64) 142 = zI S 142 := T0 142 (by omega) (by omega) rfl
      have c143 : zI (zsL S1 161 0 (nI tc).toInt64) 143 = zI S 143 := T0 143 (by omega) (by omega) rfl
      have R1 : zR S1 = zR (zsR S4 91 tc (some (zx Sx))) := by show S1.2.2.1 = _; rw [r2]; rfl
      have N1 : zn S1 = zn S4 := by show S1.2.2.2.1 = _; rw [r2]; rfl
      have C1 : zc S1 = zc S4 := by show S1.2.2.2.2.1 = _; rw [r2]; rfl
      have n0 : zn S1 0 = zn S 0 := by rw [N1, (o4 0 (by omega)).2.2.1]
      have c0 : zc S1 0 = zc S 0 := by rw [C1, (o4 0 (by omega)).2.2.2]
      refine b_L_task_5 hS1 ⟨zinl rfl, _, rfl, ⟨T0 0 (by omega) (by omega) rfl, c0, n0, hS1⟩, w_M_task (T := zsL S1 161 0 (nI tc).toInt64) (b := b) (tc := tc) (st := st) (show zSh (zsL S1 161 0 (nI tc).toInt64) from hS1) hC1 (by rw [c130]; exact e5) hl hm (fun j hj => ⟨(hb j (by omega)).1, by rw [c134]; exact (hb j (by omega)).2.2⟩) (by rw [c130]; exact e15) htc (by rw [c130]; exact e20) hst (fun c => by omega) (fun _ k' t' hw' => by rw [hw] at hw'; cases hw') (fun _ cs' hw' S2 j2 f2 f15 f20 f142 f140 f143 b0 b5 b11 g142 gcd => ?_)⟩
      rw [hw] at hw'
      cases hw'
      rw [c130] at f2
      rw [c142] at f142
      rw [c140, c141] at f140
      rw [c143] at f143
      have hS2 : zSh S2 := j2.sh (show zSh (zsL S1 161 0 (nI tc).toInt64) from hS1)
      have q1 : S2.2 = (zsL S1 161 0 (nI tc).toInt64).2 := j2.1
      have q2 : S2.2.2 = S1.2.2 := by
        rw [q1]
        rfl
      have R2 : zR S2 = zR (zsR S4 91 tc (some (zx Sx))) := by rw [← R1]; show S2.2.2.1 = S1.2.2.1; rw [q2]
      have N2 : zn S2 = zn S4 := by rw [← N1]; show S2.2.2.2.1 = S1.2.2.2.1; rw [q2]
      have C2 : zc S2 = zc S4 := by rw [← C1]; show S2.2.2.2.2.1 = S1.2.2.2.2.1; rw [q2]
      have X2 : zx S2 = zx S4 := by show S2.2.2.2.2.2.1 = S4.2.2.2.2.2.1; rw [q2, r2]; rfl
      have U2 : zu S2 = zu S4 := by show S2.2.2.2.2.2.2.1 = S4.2.2.2.2.2.2.1; rw [q2, r2]; rfl
      have Z2 : zz S2 = zz S4 := by show S2.2.2.2.2.2.2.2 = S4.2.2.2.2.2.2.2; rw [q2, r2]; rfl
      have oS : ∀ c, zmem c [130, 140, 141, 142, 143] = false → zI S2 c = zI S1 c := fun c hc => j2.2 c hc
      have Rn : ∀ c, c ≠ 91 → zR S2 c = zR S4 c := fun c hc => by
        rw [R2]
        exact zup_ne hc
      have R9 : zR S2 91 = va_up (zR S4 91) tc (some (zx Sx)) := by
        rw [R2]
        show va_up (zR S4) 91 (va_up (zR S4 91) tc (some (zx Sx))) 91 = _
        rw [va_up_self]
      have big : ∀ c, 162 ≤ c → zI S2 c = zI S4 c := fun c hc => by rw [oS c (zmem_big (b := 162) rfl hc), T4 c (by omega)]
      have oI : ∀ c, c < zx S → zmem c lNT = false → zI S2 c = zI S c := fun c hc hm => by
        have n75 : c ≠ 75 := fun e => by rw [e] at hm; cases hm
        rw [oS c (zsub_of rfl c hm), T0 c hc n75 (zsub_of rfl c hm)]
      have NT : zNt tc st cs S S2 := by
        refine ⟨⟨oI, fun j hj => by rw [oS 75 rfl]; exact T75 j hj, f2⟩, ⟨f140, f143, f142⟩, ⟨fun c hc => ⟨by rw [N2]; exact (o4 c hc).2.2.1, by rw [C2]; exact (o4 c hc).2.2.2⟩, fun c hc hn => by rw [Rn c hn]; exact (o4 c hc).2.1, fun j hj => by rw [R9, zup_ne hj, (o4 91 (by omega)).2.1], by rw [R9, va_up_self, xe]⟩, ⟨by rw [X2]; exact ax, fun c hc => ⟨by rw [Rn c (by omega), (ag.2.2.1 c (by omega)).1, xR], by rw [C2, (ag.2.2.1 c (by omega)).2, xC]⟩⟩, ⟨?_, fun k q hq => ar k q (by rw [Rn _ (by omega)] at hq; exact hq), fun j hj k => by rw [Rn _ (by omega)]; exact an j hj k⟩⟩
        unfold jTO zArr
        rw [Rn _ (by omega), C2, N2, big _ (by omega), big _ (by omega)]
        exact at'
      have hl5 := hy.2.1
      refine ⟨_, rfl, _, rfl, b0, fun _ => ?_, hS2, ⟨hS2, jCore_cong (fun c hc => ?_) hJ, NT.base h.2.2.1 hS e7 c6 e20 hst (jTape0 ?_ b5) ?_ (by rw [oS 75 rfl]; exact T757) f15 f20 hy g142 gcd, by rw [C2, (o4 0 (by omega)).2.2.2]; exact h.2.2.2.1, by rw [N2, (o4 0 (by omega)).2.2.1]; exact h.2.2.2.2.1, ?_, ?_⟩⟩
      · show S2.2.1 161 0 = (nI tc).toInt64
        rw [q1]
        rfl
      · by_cases c2 : 162 ≤ c
        · exact absurd ((zmem_big (b := 162) rfl c2).symm.trans hc) (by decide)
        · exact oI c (by omega) (zdis_of rfl c hc)
      · rw [oS 76 rfl, T4 76 (by omega), (o4 76 (by omega)).1]
        exact a1
      · rw [oS 76 rfl, T4 76 (by omega), (o4 76 (by omega)).1, a8, b11]
      · rw [U2, au]
        have := h.2.2.2.2.2.1
        omega
      · rw [Z2, az]
        have := h.2.2.2.2.2.2
        omega
  · exact zC.imp (y_task0 hS hD hJ e1 e5 hl (fun i hi e => hv ⟨i, hi, e⟩)) (fun o S1 r => r.imp (fun kk b S2 a => zAns4.P h a))
