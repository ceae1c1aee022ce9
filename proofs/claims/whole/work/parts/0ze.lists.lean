/-! the ways that are tried: how they begin, the reference's side -/
theorem w_M_lists {H n wd mv pr : Nat} {x3 : Int32} {S : ZSt} {Q : ZOut → ZSt → Prop} (hS : zSh S) (hal : x3 = nI 0 ∨ (x3 = nI 1 ∧ H = 1)) (hH : 1 ≤ H ∧ H ≤ 3) (hn : 1 ≤ n ∧ n ≤ 3) (hw : wd ≤ 3) (hm : mv ≤ 1) (hp : pr ≤ 1) (h3 : zI S 132 3 = nI wd) (h4 : zI S 132 4 = nI pr) (h5 : zI S 132 5 = nI mv) (hQ : ∀ S', zJB S S' → jLR S' (letF H n wd mv pr) → Q (.inl none) S') : zC m_M_lists [.ref 130, .int (nI n), .int (nI H), .int x3] S Q := by
  obtain ⟨-, hL⟩ := chkL_at hH hn hw hm hp
  have hL' : (rChg H 0).length + ((rPs H mv pr).length + ((rEm n H 0).length + ((rGo (n + 1) 0).length + ((rSay (wd + 1) 0).length + 1)))) ≤ 36 := by
    unfold letF at hL
    simp only [List.length_append, List.length_cons, List.length_nil] at hL
    omega
  have j0 : zJB S (zsI S 130 39 (nI 0)) := ⟨zJ.rf.I rfl, fun j hj => zI_o hj⟩
  have l0 : jLR (zsI S 130 39 (nI 0)) [] := ⟨zI_s, fun i x hx => by rw [List.getElem?_nil] at hx; cases hx⟩
  have last : ∀ {S1 : ZSt} {u5 : Option Value}, zJB S S1 → jLR S1 (rChg H 0 ++ rPs H mv pr) → zW 2 m_M_lists 81 [some (.ref 130), some (.int (nI n)), some (.int (nI H)), some (.int x3), some (.int (nI 0)), u5] [] S1 Q := fun {S1 u5} j1 l1 => by
    refine w_M_em hn.2 hH.2 H 0 (j1.sh hS) l1 (by omega) (by rw [List.length_append]; omega) (fun S2 j2 l2 u5 => ?_)
    have j12 := j1.tr j2
    refine w_M_go hn.2 (n + 1) 0 (j12.sh hS) l2 (by omega) (by simp only [List.length_append]; omega) (fun S3 j3 l3 => ?_)
    have j13 := j12.tr j3
    refine w_M_sayL hw (wd + 1) 0 (j13.sh hS) l3 (by rw [j13.1.2 132 rfl]; exact h3) (by omega) (by simp only [List.length_append]; omega) (fun S4 j4 l4 x => ?_)
    have j14 := j13.tr j4
    refine w_M_choice (k := 11) (a := 0) (b := 0) eA_11 (eB_no (by omega)) (j14.sh hS) l4 (by simp only [List.length_append]; omega) (fun S5 j5 l5 => b_M_lists_130 (j5.sh (j14.sh hS)) (hQ S5 (j14.tr j5) ?_))
    unfold letF
    simp only [List.append_assoc] at l5
    exact l5
  have hps : (rPs H mv pr).length = (if mv = 1 then rMv H H 0 else []).length + (if pr = 1 then rPr H H 0 else []).length := List.length_append
  have one : H = 1 → (if mv = 1 then rMv H H 0 else []) = ([] : List Lt) ∧ (if pr = 1 then rPr H H 0 else []) = ([] : List Lt) := fun e => by
    subst e
    refine ⟨?_, ?_⟩
    · by_cases a : mv = 1
      · rw [if_pos a]
        rfl
      · rw [if_neg a]
    · by_cases a : pr = 1
      · rw [if_pos a]
        rfl
      · rw [if_neg a]
  have mid : ∀ {S1 : ZSt} {u5 : Option Value}, zJB S S1 → jLR S1 (rChg H 0 ++ (if mv = 1 then rMv H H 0 else [])) → zW 2 m_M_lists 52 [some (.ref 130), some (.int (nI n)), some (.int (nI H)), some (.int x3), some (.int (nI 0)), u5] [] S1 Q := fun {S1 u5} j1 l1 => by
    have hv : zI S1 132 4 = nI pr := by rw [j1.1.2 132 rfl]; exact h4
    have skip : (if pr = 1 then rPr H H 0 else []) = ([] : List Lt) → jLR S1 (rChg H 0 ++ rPs H mv pr) := fun e => by
      unfold rPs
      rw [e, List.append_nil]
      exact l1
    by_cases e : pr = 1
    · rcases hal with rfl | ⟨rfl, rfl⟩
      · refine w_M_pr hH.2 H 0 (j1.sh hS) l1 (by rw [hv, e]) (by omega) (by rw [List.length_append]; rw [if_pos e] at hps; omega) (fun S2 j2 l2 u5 => last (j1.tr j2) ?_)
        unfold rPs
        rw [if_pos e, ← List.append_assoc]
        exact l2
      · exact b_M_lists_52 (j1.sh hS) ⟨fun h9 => absurd h9 (nI_ge (by omega) (by omega)), fun _ => ⟨zinl rfl, fun h9 => absurd (by rw [hv, e]) h9, fun _ => ⟨fun _ => last j1 (skip (one rfl).2), fun h9 => absurd (by decide) h9⟩⟩⟩
    · exact b_M_lists_52 (j1.sh hS) ⟨fun h9 => absurd h9 (nI_ge (by omega) (by omega)), fun _ => ⟨zinl rfl, fun _ => last j1 (skip (if_neg e)), fun h9 => absurd (fun h8 => e (nEq (by omega) (by omega) (hv.symm.trans h8))) h9⟩⟩
  refine b_M_lists hS (w_M_chg hH.2 H 0 (j0.sh hS) l0 (by omega) (by rw [List.length_nil]; omega) (fun S1 j1 l1 => ?_))
  rw [List.nil_append] at l1
  have j01 := j0.tr j1
  have hv : zI S1 132 5 = nI mv := by rw [j01.1.2 132 rfl]; exact h5
  have skip : (if mv = 1 then rMv H H 0 else []) = ([] : List Lt) → jLR S1 (rChg H 0 ++ (if mv = 1 then rMv H H 0 else [])) := fun e => by
    rw [e, List.append_nil]
    exact l1
  by_cases e : mv = 1
  · rcases hal with rfl | ⟨rfl, rfl⟩
    · refine w_M_mv hH.2 H 0 (j01.sh hS) l1 (by rw [hv, e]) (by omega) (by rw [if_pos e] at hps; omega) (fun S2 j2 l2 u5 => mid (j01.tr j2) ?_)
      rw [if_pos e]
      exact l2
    · exact b_M_lists_22 (j01.sh hS) ⟨fun h9 => absurd h9 (nI_ge (by omega) (by omega)), fun _ => ⟨zinl rfl, fun h9 => absurd (by rw [hv, e]) h9, fun _ => ⟨fun _ => mid j01 (skip (one rfl).1), fun h9 => absurd (by decide) h9⟩⟩⟩
  · exact b_M_lists_22 (j01.sh hS) ⟨fun h9 => absurd h9 (nI_ge (by omega) (by omega)), fun _ => ⟨zinl rfl, fun _ => mid j01 (skip (if_neg e)), fun h9 => absurd (fun h8 => e (nEq (by omega) (by omega) (hv.symm.trans h8))) h9⟩⟩
/-- the reference's picks -/
def jPR (S : ZSt) (F : List Lt) (n : Nat) (pk : Nat → Nat) : Prop := ∀ k, k < n → pk k < F.length ∧ zI S 151 k = nI (pk k)
theorem w_M_pO4 {F : List Lt} {n : Nat} {x1 : Int32} {Q : ZOut → ZSt → Prop} (hF : F.length ≤ 36) (h0 : 0 < F.length) (hn : n ≤ 3) : ∀ (k : Nat) {S : ZSt} {pk : Nat → Nat}, zSh S → zI S 130 39 = nI F.length → k ≤ n → jPR S F n pk → (∀ S', zJ [151] S S' → jPR S' F n (advK F.length k pk).2 → Q (.inl (some (.int (zBo (advK F.length k pk).1)))) S') → zW 1 m_M_picksOn 4 [some (.ref 130), some (.int x1), some (.int (nI k - nI 1))] [] S Q
  | 0, S, pk, hS, hJ, hk, hp, hQ => b_M_picksOn_4 hS ⟨fun _ => ⟨fun h9 => absurd h9 (by decide), fun _ => ⟨rfl, hQ S zJ.rf hp⟩⟩, fun h9 => absurd (by decide) h9⟩
  | k + 1, S, pk, hS, hJ, hk, hp, hQ => by
    have hr := hp k (by omega)
    rw [zsub1 (by omega), show k + 1 - 1 = k by omega]
    refine b_M_picksOn_4 hS ⟨fun h9 => absurd h9 (nI_pos (by omega)), fun _ => ⟨zin (by omega) (by omega), ?_⟩⟩
    rw [zcl9 (by omega), hr.2, hJ, nI_add, zsub1 (by omega)]
    have hupn : ∀ {v : Nat}, v < F.length → jPR (zsI S 151 k (nI v)) F n (upn pk k v) := fun {v} hv j hj => by
      by_cases e : j = k
      · rw [e, upn_self]
        exact ⟨hv, zI_s⟩
      · rw [show upn pk k v j = pk j from if_neg e, zI_o e]
        exact hp j hj
    have eA1 : advK F.length (k + 1) pk = if pk k + 1 < F.length then (true, upn pk k (pk k + 1)) else advK F.length k (upn pk k 0) := rfl
    rw [eA1] at hQ
    refine ⟨fun h9 => ⟨fun _ => ⟨zin (by omega) (by omega), zin (by omega) (by omega), rfl, ?_⟩, fun h8 => absurd (nI_pos' (by omega)) h8⟩, fun h9 => ⟨zin (by omega) (by omega), ?_⟩⟩
    · have e : pk k + 1 < F.length := by
        have : ¬ pk k = F.length - 1 := fun e => h9 (by rw [e])
        omega
      rw [if_pos e] at hQ
      exact hQ _ (zJ.rf.I rfl) (hupn e)
    · have e : ¬ pk k + 1 < F.length := by
        have := nEq (by omega) (by omega) (Classical.not_not.mp h9)
        omega
      rw [if_neg e] at hQ
      rw [← Int32.sub_eq_add_neg]
      have j1 : zJ [151] S (zsI S 151 k (nI 0)) := zJ.rf.I rfl
      exact w_M_pO4 hF h0 hn k (j1.sh hS) (by rw [j1.2 130 rfl]; exact hJ) (by omega) (hupn h0) (fun S' j' => hQ S' (j1.tr j'))
theorem w_M_picksOn {F : List Lt} {n : Nat} {S : ZSt} {pk : Nat → Nat} {Q : ZOut → ZSt → Prop} (hF : F.length ≤ 36) (h0 : 0 < F.length) (hn : n ≤ 3) (hS : zSh S) (hJ : zI S 130 39 = nI F.length) (hp : jPR S F n pk) (hQ : ∀ S', zJ [151] S S' → jPR S' F n (advK F.length n pk).2 → Q (.inl (some (.int (zBo (advK F.length n pk).1)))) S') : zC m_M_picksOn [.ref 130, .int (nI n)] S Q := b_M_picksOn hS (w_M_pO4 hF h0 hn n hS hJ (Nat.le_refl _) hp hQ)
/-- what laying changes -/
def zJL (S S' : ZSt) : Prop := zJ [136, 137, 138, 139] S S' ∧ (∀ q, q < 6 → zI S' 136 q = zI S 136 q) ∧ ∀ q, q < 144 → zI S' 137 q = zI S 137 q ∧ zI S' 138 q = zI S 138 q ∧ zI S' 139 q = zI S 139 q
theorem zJL.rf {S : ZSt} : zJL S S := ⟨zJ.rf, fun _ _ => rfl, fun _ _ => ⟨rfl, rfl, rfl⟩⟩
theorem zJL.tr {S S1 S2 : ZSt} (h1 : zJL S S1) (h2 : zJL S1 S2) : zJL S S2 := ⟨h1.1.tr h2.1, fun q hq => (h2.2.1 q hq).trans (h1.2.1 q hq), fun q hq => ⟨(h2.2.2 q hq).1.trans (h1.2.2 q hq).1, (h2.2.2 q hq).2.1.trans (h1.2.2 q hq).2.1, (h2.2.2 q hq).2.2.trans (h1.2.2 q hq).2.2⟩⟩
theorem w_M_lays7 {F : List Lt} {n : Nat} {pk : Nat → Nat} {Q : ZOut → ZSt → Prop} (hF : F.length ≤ 36) (hn : n ≤ 3) : ∀ (f k : Nat) {S : ZSt}, zSh S → jLR S F → jPR S F n pk → f + k = n → zI S 136 6 = nI n → (∀ j, j < k → zI S 137 (144 + j) = nI (pK F pk j) ∧ zI S 138 (144 + j) = eA (pK F pk j) (pA F pk j) ∧ zI S 139 (144 + j) = eB (pK F pk j) (pB F pk j)) → (∀ S', zJL S S' → jWM S' 6 n (pK F pk) (pA F pk) (pB F pk) → Q (.inl none) S') → zW 1 m_M_lays 7 [some (.ref 130), some (.int (nI n)), some (.int (nI k))] [] S Q
  | 0, k, S, hS, hJ, hp, hk, h6, hr, hQ => b_M_lays_7 hS ⟨fun _ => hQ S zJL.rf ⟨h6, fun j hj => hr j (by omega)⟩, fun h9 => absurd (nI_le (show n ≤ k by omega) (by omega)) h9⟩
  | f + 1, k, S, hS, hJ, hp, hk, h6, hr, hQ => by
    obtain ⟨p1, p2⟩ := hp k (by omega)
    obtain ⟨x1, x2, x3⟩ := hJ.2 _ _ (pL_at p1)
    refine b_M_lays_7 hS ⟨fun h9 => absurd h9 (nI_ge (by omega) (by omega)), fun _ => ?_⟩
    rw [zcl9 (by omega), p2, zcl9 (by omega), nI_add, nI_add, zcl9 (by omega), x1, x2, x3]
    refine ⟨zin (by omega) (by omega), zin (by omega) (by omega), zin (by omega) (by omega), zin (by omega) (by omega), zin (by omega) (by omega), zin (by omega) (by omega), zin (by omega) (by omega), zin (by omega) (by omega), zin (by omega) (by omega), ?_⟩
    have j1 : zJ [136, 137, 138, 139] S (zsI (zsI (zsI S 137 (144 + k) (nI (pL F pk k).1)) 138 (144 + k) (eA (pL F pk k).1 (pL F pk k).2.1)) 139 (144 + k) (eB (pL F pk k).1 (pL F pk k).2.2)) := ((zJ.rf.I rfl).I rfl).I rfl
    have e7 : ∀ q, q ≠ 144 + k → zI (zsI (zsI (zsI S 137 (144 + k) (nI (pL F pk k).1)) 138 (144 + k) (eA (pL F pk k).1 (pL F pk k).2.1)) 139 (144 + k) (eB (pL F pk k).1 (pL F pk k).2.2)) 137 q = zI S 137 q := fun q hq => by rw [zI_ne _ _ (by omega), zI_ne _ _ (by omega), zI_o hq]
    have e8 : ∀ q, q ≠ 144 + k → zI (zsI (zsI (zsI S 137 (144 + k) (nI (pL F pk k).1)) 138 (144 + k) (eA (pL F pk k).1 (pL F pk k).2.1)) 139 (144 + k) (eB (pL F pk k).1 (pL F pk k).2.2)) 138 q = zI S 138 q := fun q hq => by rw [zI_ne _ _ (by omega), zI_o hq, zI_ne _ _ (by omega)]
    have e9 : ∀ q, q ≠ 144 + k → zI (zsI (zsI (zsI S 137 (144 + k) (nI (pL F pk k).1)) 138 (144 + k) (eA (pL F pk k).1 (pL F pk k).2.1)) 139 (144 + k) (eB (pL F pk k).1 (pL F pk k).2.2)) 139 q = zI S 139 q := fun q hq => by rw [zI_o hq, zI_ne _ _ (by omega), zI_ne _ _ (by omega)]
    have e6 : zI (zsI (zsI (zsI S 137 (144 + k) (nI (pL F pk k).1)) 138 (144 + k) (eA (pL F pk k).1 (pL F pk k).2.1)) 139 (144 + k) (eB (pL F pk k).1 (pL F pk k).2.2)) 136 = zI S 136 := by rw [zI_ne _ _ (by omega), zI_ne _ _ (by omega), zI_ne _ _ (by omega)]
    have jl : zJL S (zsI (zsI (zsI S 137 (144 + k) (nI (pL F pk k).1)) 138 (144 + k) (eA (pL F pk k).1 (pL F pk k).2.1)) 139 (144 + k) (eB (pL F pk k).1 (pL F pk k).2.2)) := ⟨j1, fun q _ => by rw [e6], fun q hq => ⟨e7 q (by omega), e8 q (by omega), e9 q (by omega)⟩⟩
    refine w_M_lays7 hF hn f (k + 1) (j1.sh hS) ?_ ?_ (by omega) (by rw [e6]; exact h6) (fun j hj => ?_) (fun S' j' => hQ S' (jl.tr j'))
    · unfold jLR
      rw [j1.2 130 rfl, j1.2 148 rfl, j1.2 149 rfl, j1.2 150 rfl]
      exact hJ
    · intro j hj
      rw [j1.2 151 rfl]
      exact hp j hj
    · by_cases e : j = k
      · subst e
        refine ⟨?_, ?_, ?_⟩
        · rw [zI_ne _ _ (by omega), zI_ne _ _ (by omega), zI_s]
          rfl
        · rw [zI_ne _ _ (by omega), zI_s]
          rfl
        · rw [zI_s]
          rfl
      · rw [e7 _ (by omega), e8 _ (by omega), e9 _ (by omega)]
        exact hr j (by omega)
theorem w_M_lays {F : List Lt} {n : Nat} {pk : Nat → Nat} {S : ZSt} {Q : ZOut → ZSt → Prop} (hF : F.length ≤ 36) (hn : n ≤ 3) (hS : zSh S) (hJ : jLR S F) (hp : jPR S F n pk) (hQ : ∀ S', zJL S S' → jWM S' 6 n (pK F pk) (pA F pk) (pB F pk) → Q (.inl none) S') : zC m_M_lays [.ref 130, .int (nI n)] S Q := by
  have j1 : zJ [136, 137, 138, 139] S (zsI S 136 6 (nI n)) := zJ.rf.I rfl
  have jl : zJL S (zsI S 136 6 (nI n)) := ⟨j1, fun q hq => zI_o (by omega), fun q _ => ⟨by rw [zI_ne _ _ (by omega)], by rw [zI_ne _ _ (by omega)], by rw [zI_ne _ _ (by omega)]⟩⟩
  refine b_M_lays hS ⟨zinl rfl, w_M_lays7 hF hn n 0 (j1.sh hS) ?_ ?_ (by omega) zI_s (fun j hj => by omega) (fun S' j' => hQ S' (jl.tr j'))⟩
  · unfold jLR
    rw [j1.2 130 rfl, j1.2 148 rfl, j1.2 149 rfl, j1.2 150 rfl]
    exact hJ
  · intro j hj
    rw [j1.2 151 rfl]
    exact hp j hj
