/-! ways are sought: the reference's side, as a whole -/
def zFd (S : ZSt) (l : Nat) (F : List Lt) (q : Nat → Nat) (i : Nat) : Prop := ∀ j, j < i → (j < l → zI S 152 j = nI (q j) ∧ zI S 153 j = nI (pK F q j) ∧ zI S 154 j = eA (pK F q j) (pA F q j) ∧ zI S 155 j = eB (pK F q j) (pB F q j)) ∧ (l ≤ j → zI S 152 j = - nI 1)
theorem w_M_kF8 {F : List Lt} {l : Nat} {x2 : Int32} {pk : Nat → Nat} {Q : ZOut → ZSt → Prop} (hl : l ≤ 3) : ∀ (f i : Nat) {S : ZSt}, zSh S → jPR S F l pk → jWM S 6 l (pK F pk) (pA F pk) (pB F pk) → f + i = 3 → zFd S l F pk i → (∀ S', zJ [152, 153, 154, 155] S S' → zFd S' l F pk 3 → Q (.inl none) S') → zW 1 m_M_keepFound 8 [some (.ref 130), some (.int (nI l)), some (.int x2), some (.int (nI i))] [] S Q
  | 0, i, S, hS, hp, hw, hi, hz, hQ => b_M_keepFound_8 hS ⟨fun _ => hQ S zJ.rf (by rw [show (3 : Nat) = i by omega]; exact hz), fun h9 => absurd (nI_le (show 3 ≤ i by omega) (by omega)) h9⟩
  | f + 1, i, S, hS, hp, hw, hi, hz, hQ => by
    refine b_M_keepFound_8 hS ⟨fun h9 => absurd h9 (nI_ge (by omega) (by omega)), fun _ => ?_⟩
    rw [nI_add, nI_add, zcl9 (by omega), zcl9 (by omega)]
    have i3 : vp_in (nI i) 3 := zin (by omega) (by omega)
    have i1 : vp_in (nI (144 + i)) 168 := zin (by omega) (by omega)
    by_cases c : i < l
    · refine ⟨fun h9 => absurd h9 (nI_ge c (by omega)), fun _ => ⟨i3, i3, fun _ => ⟨i1, i3, i1, i3, i1, i3, ?_⟩, fun h9 => absurd (nI_lt c (by omega)) h9⟩⟩
      obtain ⟨y1, y2, y3⟩ := hw.2 i c
      have y0 := (hp i c).2
      rw [y0, show (144 + i : Nat) = 24 * 6 + i by omega, y1, y2, y3]
      have j1 : zJ [152, 153, 154, 155] S (zsI (zsI (zsI (zsI S 152 i (nI (pk i))) 153 i (nI (pK F pk i))) 154 i (eA (pK F pk i) (pA F pk i))) 155 i (eB (pK F pk i) (pB F pk i))) := (((zJ.rf.I rfl).I rfl).I rfl).I rfl
      refine w_M_kF8 hl f (i + 1) (j1.sh hS) (hp.of (j1.2 151 rfl)) (hw.J j1 rfl) (by omega) (fun j hj => ?_) (fun S' j' => hQ S' (j1.tr j'))
      by_cases e : j = i
      · subst e
        refine ⟨fun _ => ⟨?_, ?_, ?_, ?_⟩, fun h9 => by omega⟩
        · rw [zI_ne _ _ (by omega), zI_ne _ _ (by omega), zI_ne _ _ (by omega), zI_s]
        · rw [zI_ne _ _ (by omega), zI_ne _ _ (by omega), zI_s]
        · rw [zI_ne _ _ (by omega), zI_s]
        · rw [zI_s]
      · have h2 : zI (zsI (zsI (zsI (zsI S 152 i (nI (pk i))) 153 i (nI (pK F pk i))) 154 i (eA (pK F pk i) (pA F pk i))) 155 i (eB (pK F pk i) (pB F pk i))) 152 j = zI S 152 j := by rw [zI_ne _ _ (by omega), zI_ne _ _ (by omega), zI_ne _ _ (by omega), zI_o e]
        have h3 : zI (zsI (zsI (zsI (zsI S 152 i (nI (pk i))) 153 i (nI (pK F pk i))) 154 i (eA (pK F pk i) (pA F pk i))) 155 i (eB (pK F pk i) (pB F pk i))) 153 j = zI S 153 j := by rw [zI_ne _ _ (by omega), zI_ne _ _ (by omega), zI_o e, zI_ne _ _ (by omega)]
        have h4 : zI (zsI (zsI (zsI (zsI S 152 i (nI (pk i))) 153 i (nI (pK F pk i))) 154 i (eA (pK F pk i) (pA F pk i))) 155 i (eB (pK F pk i) (pB F pk i))) 154 j = zI S 154 j := by rw [zI_ne _ _ (by omega), zI_o e, zI_ne _ _ (by omega), zI_ne _ _ (by omega)]
        have h5 : zI (zsI (zsI (zsI (zsI S 152 i (nI (pk i))) 153 i (nI (pK F pk i))) 154 i (eA (pK F pk i) (pA F pk i))) 155 i (eB (pK F pk i) (pB F pk i))) 155 j = zI S 155 j := by rw [zI_o e, zI_ne _ _ (by omega), zI_ne _ _ (by omega), zI_ne _ _ (by omega)]
        rw [h2, h3, h4, h5]
        exact hz j (by omega)
    · refine ⟨fun _ => ⟨i3, fun h9 => absurd h9 (nI_nlt (by omega) (by omega)), fun _ => ?_⟩, fun h9 => absurd (nI_le (show l ≤ i by omega) (by omega)) h9⟩
      have j1 : zJ [152, 153, 154, 155] S (zsI S 152 i (- nI 1)) := zJ.rf.I rfl
      refine w_M_kF8 hl f (i + 1) (j1.sh hS) (hp.of (j1.2 151 rfl)) (hw.J j1 rfl) (by omega) (fun j hj => ?_) (fun S' j' => hQ S' (j1.tr j'))
      by_cases e : j = i
      · subst e
        exact ⟨fun h9 => absurd h9 c, fun _ => zI_s⟩
      · rw [zI_o e, zI_ne _ _ (by omega), zI_ne _ _ (by omega), zI_ne _ _ (by omega)]
        exact hz j (by omega)
theorem w_M_keepFound {F : List Lt} {l t : Nat} {pk : Nat → Nat} {S : ZSt} {Q : ZOut → ZSt → Prop} (hl : l ≤ 3) (hS : zSh S) (hp : jPR S F l pk) (hw : jWM S 6 l (pK F pk) (pA F pk) (pB F pk)) (hQ : ∀ S', zJ [130, 152, 153, 154, 155] S S' → (∀ j, j ≠ 44 → j ≠ 45 → zI S' 130 j = zI S 130 j) → zI S' 130 44 = nI l → zI S' 130 45 = nI t → zFd S' l F pk 3 → Q (.inl none) S') : zC m_M_keepFound [.ref 130, .int (nI l), .int (nI t)] S Q := by
  have j1 : zJ [130, 152, 153, 154, 155] S (zsI (zsI S 130 44 (nI l)) 130 45 (nI t)) := (zJ.rf.I rfl).I rfl
  refine b_M_keepFound hS (w_M_kF8 hl 3 0 (j1.sh hS) (hp.of (j1.2 151 rfl)) (hw.J j1 rfl) (by omega) (fun j hj => by omega) (fun S' j' z' => hQ S' (j1.tr (zJ3 j' (zsub_of rfl))) (fun j a b => ?_) ?_ ?_ z'))
  · rw [j'.2 130 rfl, zI_o b, zI_o a]
  · rw [j'.2 130 rfl, zI_o (by omega), zI_s]
  · rw [j'.2 130 rfl, zI_s]
theorem zJX.ofK {S S' : ZSt} (h : zJ [130, 152, 153, 154, 155] S S') (k : ∀ j, j ≠ 44 → j ≠ 45 → zI S' 130 j = zI S 130 j) : zJX S S' := ⟨zJ3 h (zsub_of rfl), ⟨fun j hj => k j (zkey46 hj).1 (zkey46 hj).2.1, fun q _ => by rw [h.2 136 rfl], fun q _ => ⟨by rw [h.2 137 rfl], by rw [h.2 138 rfl], by rw [h.2 139 rfl]⟩⟩, k 0 (by omega) (by omega)⟩
theorem zFd.of {S S1 : ZSt} {l i : Nat} {F : List Lt} {q : Nat → Nat} (h : zFd S l F q i) (g : zJ lIG S S1) : zFd S1 l F q i := by
  unfold zFd
  rw [g.2 152 rfl, g.2 153 rfl, g.2 154 rfl, g.2 155 rfl]
  exact h
/-- till one is found, in one length -/
theorem w_M_fA {F : List Lt} {k m n most tk : Nat} {x4 x7 : Int32} {cs : List (List (Nat × Nat))} {Q : ZOut → ZSt → Prop} (hok : ∀ x ∈ F, okL k x = true) (hF : F.length ≤ 36) (h0 : 0 < F.length) (hk : 1 ≤ k ∧ k ≤ 3) (hm : 1 ≤ m ∧ m ≤ 3) (hn : n ≤ 9) (hmo : most ≤ 20000) (htk : tk < 6) (hf : wfT cs) : ∀ (f t : Nat) {S : ZSt} {pk : Nat → Nat}, zSh S → jLR S F → jPR S F k pk → zI S 130 34 = - nI 1 → jTM S tk cs → zI S 130 44 = - nI 1 → zI S 130 46 = nI 0 → t ≤ most → rk F.length pk k + (f + 1) = F.length ^ k → (∀ q, (skI (dsA F k cs m n) F.length k most (f + 1) pk t).1 = some q → ∀ S', zJX S S' → zI S' 130 44 = nI k → zI S' 130 45 = nI (skI (dsA F k cs m n) F.length k most (f + 1) pk t).2 → zI S' 130 46 = nI (1 + rvI (dsA F k cs m n) F.length k (most - (skI (dsA F k cs m n) F.length k most (f + 1) pk t).2) q) → zFd S' k F q 3 → Q (.inl none) S') → ((skI (dsA F k cs m n) F.length k most (f + 1) pk t).1 = none → ∀ S' u9, zJG S S' → zI S' 130 46 = nI 0 → zW 5 m_M_finds 26 [some (.ref 130), some (.int (nI tk)), some (.int (nI m)), some (.int (nI n)), some (.int x4), some (.int (nI most)), some (.int (nI (skI (dsA F k cs m n) F.length k most (f + 1) pk t).2)), some (.int x7), some (.int (nI (k + 1))), u9] [] S' Q) → zW 5 m_M_finds 52 [some (.ref 130), some (.int (nI tk)), some (.int (nI m)), some (.int (nI n)), some (.int x4), some (.int (nI most)), some (.int (nI t)), some (.int x7), some (.int (nI k)), some (.int (nI 1))] [] S Q
  | f, t, S, pk, hS, hJ, hp, h34, hT, h44, h46, htm, hr, h1, h2 => by
    have eI : skI (dsA F k cs m n) F.length k most (f + 1) pk t = if t < most then (if dsA F k cs m n pk = true then (some pk, t + 1) else skI (dsA F k cs m n) F.length k most f (advK F.length k pk).2 (t + 1)) else (none, t) := rfl
    by_cases htl : t < most
    case neg =>
      rw [eI, if_neg htl] at h2
      refine b_M_finds_52 hS ⟨fun h9 => absurd h9 (by decide), fun _ => ⟨fun _ => ?_, fun h9 => absurd (nI_le (show most ≤ t by omega) (by omega)) h9⟩⟩
      rw [nI_add]
      exact h2 rfl S _ zJG.rf h46
    rw [eI, if_pos htl] at h1 h2
    refine w_M_fi1 hok hF hk hm hn hmo htk hf hS hJ hp h34 hT htl (fun S1 g1 e1 l1 p1 w1 d1 => b_M_finds_69 (g1.sh hS) ?_)
    have hS1 := g1.sh hS
    cases hc : dsA F k cs m n pk with
    | true =>
      rw [hc, if_pos rfl] at h1
      refine ⟨fun h9 => absurd (d1.mpr hc) h9, fun _ => ⟨fun h9 => absurd ((g1.2.2 44 (by omega)).trans h44) h9, fun _ => w_M_keepFound hk.2 hS1 p1 w1 (fun S2 j2 k2 a44 a45 fd => b_M_finds_81 (j2.sh hS1) ?_)⟩⟩
      have hS2 := j2.sh hS1
      have x2 := zJX.ofK j2 k2
      rw [k2 46 (by omega) (by omega), e1, h46, nI_add]
      have g3 : zJG S2 (zsI S2 130 46 (nI (0 + 1))) := zJG.of46
      have hS3 := g3.sh hS2
      have l3 : jLR (zsI S2 130 46 (nI (0 + 1))) F := l1.of (by rw [zI_o (by omega), k2 39 (by omega) (by omega)]) (by rw [zI_ne _ _ (by omega), j2.2 148 rfl]) (by rw [zI_ne _ _ (by omega), j2.2 149 rfl]) (by rw [zI_ne _ _ (by omega), j2.2 150 rfl])
      refine w_M_picksOn (F := F) (pk := pk) hF h0 hk.2 hS3 l3.1 (p1.of (by rw [zI_ne _ _ (by omega), j2.2 151 rfl])) (fun S4 j4 p4 => b_M_finds_90 (j4.sh hS3) ?_)
      have g4 := g3.tr (zJG.ofP j4)
      have x4' := (g1.x.tr x2).tr g4.x
      have b44 : zI S4 130 44 = nI k := by rw [g4.2.2 44 (by omega)]; exact a44
      refine w_M_fB hok hF h0 hk hm hn hmo htk hf (most - (t + 1)) (t + 1) 1 (pk := pk) (j4.sh hS3) (l3.of (by rw [j4.2 130 rfl]) (j4.2 148 rfl) (j4.2 149 rfl) (j4.2 150 rfl)) p4 (by rw [x4'.2.1.1 34 rfl]; exact h34) (hT.G x4'.1) (by rw [b44]; exact zneq1 (by omega)) (by rw [j4.2 130 rfl, zI_s]) (by omega) (fun S' g' e' => ?_)
      exact h1 pk rfl S' (x4'.tr g'.x) (by rw [g'.2.2 44 (by omega)]; exact b44) (by rw [g'.2.2 45 (by omega), g4.2.2 45 (by omega)]; exact a45) e' ((fd.of g4.1).of g'.1)
    | false =>
      rw [hc, if_neg (by decide)] at h1 h2
      obtain ⟨-, a2, a3⟩ := advK_s h0 k pk (fun j hj => (hp j hj).1)
      refine ⟨fun _ => w_M_picksOn hF h0 hk.2 hS1 l1.1 p1 (fun S2 j2 p2 => b_M_finds_90 (j2.sh hS1) ?_), fun h9 => absurd (d1.mp (Classical.not_not.mp h9)) (by rw [hc]; decide)⟩
      have hS2 := j2.sh hS1
      have g2 := g1.tr (zJG.ofP j2)
      have b46 : zI S2 130 46 = nI 0 := by rw [j2.2 130 rfl, e1]; exact h46
      match f, hr, h1, h2 with
      | 0, hr, h1, h2 =>
        have ea : (advK F.length k pk).1 = false := by
          rw [a2]
          exact decide_eq_false (by omega)
        rw [ea]
        refine b_M_finds_52 hS2 ⟨fun _ => ?_, fun h9 => absurd rfl h9⟩
        rw [nI_add]
        exact h2 rfl S2 _ g2 b46
      | f + 1, hr, h1, h2 =>
        have ea : (advK F.length k pk).1 = true := by
          rw [a2]
          exact decide_eq_true (by omega)
        rw [ea]
        exact w_M_fA hok hF h0 hk hm hn hmo htk hf f (t + 1) hS2 (l1.of (by rw [j2.2 130 rfl]) (j2.2 148 rfl) (j2.2 149 rfl) (j2.2 150 rfl)) p2 (by rw [g2.2.1.1 34 rfl]; exact h34) (hT.G (zJ3 g2.1 (zsub_of rfl))) (by rw [g2.2.2 44 (by omega)]; exact h44) b46 (by omega) (by rw [a3 ea]; omega) (fun q h S' g' => h1 q h S' (g2.x.tr g')) (fun h S' u9 g' => h2 h S' u9 (g2.tr g'))
theorem w_M_f40 {F : List Lt} {k : Nat} {x1 x2 x3 x4 x5 x6 x7 x8 : Int32} {Q : ZOut → ZSt → Prop} (h0 : 0 < F.length) (hk : k ≤ 3) : ∀ (f i : Nat) {S : ZSt}, zSh S → f + i = 3 → (∀ j, j < i → zI S 151 j = nI 0) → (∀ S', zJ [151] S S' → jPR S' F k (fun _ => 0) → zW 5 m_M_finds 52 [some (.ref 130), some (.int x1), some (.int x2), some (.int x3), some (.int x4), some (.int x5), some (.int x6), some (.int x7), some (.int x8), some (.int (nI 1))] [] S' Q) → zW 5 m_M_finds 40 [some (.ref 130), some (.int x1), some (.int x2), some (.int x3), some (.int x4), some (.int x5), some (.int x6), some (.int x7), some (.int x8), some (.int (nI i))] [] S Q
  | 0, i, S, hS, hi, hz, hQ => b_M_finds_40 hS ⟨fun _ => hQ S zJ.rf (fun k hk => ⟨h0, hz k (by omega)⟩), fun h9 => absurd (nI_le (show 3 ≤ i by omega) (by omega)) h9⟩
  | f + 1, i, S, hS, hi, hz, hQ => by
    refine b_M_finds_40 hS ⟨fun h9 => absurd h9 (nI_ge (by omega) (by omega)), fun _ => ⟨zin (by omega) (by omega), ?_⟩⟩
    rw [zcl9 (by omega), nI_add]
    have j1 : zJ [151] S (zsI S 151 i (nI 0)) := zJ.rf.I rfl
    refine w_M_f40 h0 hk f (i + 1) (j1.sh hS) (by omega) (fun j hj => ?_) (fun S' j' => hQ S' (j1.tr j'))
    by_cases e : j = i
    · rw [e, zI_s]
    · rw [zI_o e]
      exact hz j (by omega)
/-- all lengths -/
theorem w_M_f26 {H wd mv pr m n tk most acts : Nat} {cs : List (List (Nat × Nat))} {Q : ZOut → ZSt → Prop} (hH : 1 ≤ H ∧ H ≤ 3) (hw : wd ≤ 3) (hmv : mv ≤ 1) (hpr : pr ≤ 1) (hm : 1 ≤ m ∧ m ≤ 3) (hn : n ≤ 9) (hmo : most ≤ 20000) (hac : acts ≤ 3) (htk : tk < 6) (hft : wfT cs) : ∀ (f k : Nat) {S : ZSt} {t : Nat} {u9 : Option Value}, zSh S → zI S 132 3 = nI wd → zI S 132 4 = nI pr → zI S 132 5 = nI mv → zI S 130 34 = - nI 1 → jTM S tk cs → zI S 130 44 = - nI 1 → zI S 130 46 = nI 0 → t ≤ most → 1 ≤ k → f + k = acts + 1 → (∀ l q, (skL H wd mv pr cs m n most f k t).1 = some (l, q) → ∀ S', zJX S S' → zI S' 130 44 = nI l → zI S' 130 45 = nI (skL H wd mv pr cs m n most f k t).2 → zI S' 130 46 = nI (1 + rvI (dsA (letF H l wd mv pr) l cs m n) (letF H l wd mv pr).length l (most - (skL H wd mv pr cs m n most f k t).2) q) → zFd S' l (letF H l wd mv pr) q 3 → Q (.inl none) S') → ((skL H wd mv pr cs m n most f k t).1 = none → ∀ S', zJX S S' → zI S' 130 44 = - nI 1 → zI S' 130 45 = nI (skL H wd mv pr cs m n most f k t).2 → Q (.inl none) S') → zW 5 m_M_finds 26 [some (.ref 130), some (.int (nI tk)), some (.int (nI m)), some (.int (nI n)), some (.int (nI acts)), some (.int (nI most)), some (.int (nI t)), some (.int (nI H)), some (.int (nI k)), u9] [] S Q
  | 0, k, S, t, u9, hS, v3, v4, v5, h34, hT, h44, h46, htm, h1k, hf, h1, h2 => by
    have x1 : zJX S (zsI S 130 45 (nI t)) := ⟨zJ.rf.I rfl, ⟨fun j hj => zI_o (zkey46 hj).2.1, fun q _ => by rw [zI_ne _ _ (by omega)], fun q _ => ⟨by rw [zI_ne _ _ (by omega)], by rw [zI_ne _ _ (by omega)], by rw [zI_ne _ _ (by omega)]⟩⟩, zI_o (by omega)⟩
    exact b_M_finds_26 hS ⟨fun _ => ⟨fun h9 => absurd h44 h9, fun _ => h2 rfl _ x1 ((zI_o (by omega)).trans h44) zI_s⟩, fun h9 => absurd (nI_lt (show acts < k by omega) (by omega)) h9⟩
  | f + 1, k, S, t, u9, hS, v3, v4, v5, h34, hT, h44, h46, htm, h1k, hf, h1, h2 => by
    have hk : 1 ≤ k ∧ k ≤ 3 := by omega
    obtain ⟨hok, hL⟩ := chkL_at hH hk hw hmv hpr
    have hpos : 0 < (letF H k wd mv pr).length := by
      unfold letF
      simp only [List.length_append, List.length_cons, List.length_nil]
      omega
    have hNp : 0 < (letF H k wd mv pr).length ^ k := Nat.pow_pos hpos
    refine b_M_finds_26 hS ⟨fun h9 => absurd h9 (nI_nlt (by omega) (by omega)), fun _ => ⟨fun h9 => absurd h44 h9, fun _ => w_M_lists hS (Or.inl rfl) hH hk hw hmv hpr v3 v4 v5 (fun S1 j1 l1 => b_M_finds_38 (j1.1.sh hS) ?_)⟩⟩
    have g1 := zJG.ofB j1
    have hS1 := g1.sh hS
    refine w_M_f40 (F := letF H k wd mv pr) (k := k) hpos hk.2 3 0 hS1 (by omega) (fun j hj => by omega) (fun S2 j2 p2 => ?_)
    have g2 := g1.tr (zJG.ofP j2)
    have eL : skL H wd mv pr cs m n most (f + 1) k t = match (skI (dsA (letF H k wd mv pr) k cs m n) (letF H k wd mv pr).length k most ((letF H k wd mv pr).length ^ k) (fun _ => 0) t).1 with
      | some q => (some (k, q), (skI (dsA (letF H k wd mv pr) k cs m n) (letF H k wd mv pr).length k most ((letF H k wd mv pr).length ^ k) (fun _ => 0) t).2)
      | none => skL H wd mv pr cs m n most f (k + 1) (skI (dsA (letF H k wd mv pr) k cs m n) (letF H k wd mv pr).length k most ((letF H k wd mv pr).length ^ k) (fun _ => 0) t).2 := rfl
    rw [eL] at h1 h2
    have hsz : (letF H k wd mv pr).length ^ k = (letF H k wd mv pr).length ^ k - 1 + 1 := by omega
    refine w_M_fA hok hL hpos hk hm hn hmo htk hft ((letF H k wd mv pr).length ^ k - 1) t (pk := fun _ => 0) (g2.sh hS) (l1.of (by rw [j2.2 130 rfl]) (j2.2 148 rfl) (j2.2 149 rfl) (j2.2 150 rfl)) p2 (by rw [g2.2.1.1 34 rfl]; exact h34) (hT.G (zJ3 g2.1 (zsub_of rfl))) (by rw [g2.2.2 44 (by omega)]; exact h44) (by rw [j2.2 130 rfl, j1.2 46 (by omega)]; exact h46) htm (by rw [rk_0]; omega) (fun q hq S' g' a b c d => ?_) (fun hq S' u9 g' c => ?_)
    · rw [← hsz] at hq b c
      rw [hq] at h1
      exact h1 k q rfl S' (g2.x.tr g') a b c d
    · rw [← hsz] at hq ⊢
      rw [hq] at h1 h2
      have gg := g2.tr g'
      exact w_M_f26 hH hw hmv hpr hm hn hmo hac htk hft f (k + 1) (gg.sh hS) (by rw [gg.1.2 132 rfl]; exact v3) (by rw [gg.1.2 132 rfl]; exact v4) (by rw [gg.1.2 132 rfl]; exact v5) (by rw [gg.2.1.1 34 rfl]; exact h34) (hT.G (zJ3 gg.1 (zsub_of rfl))) (by rw [gg.2.2 44 (by omega)]; exact h44) c (skI_le _ _ _ htm) (by omega) (by omega) (fun l q h S3 g3 => h1 l q h S3 (gg.x.tr g3)) (fun h S3 g3 => h2 h S3 (gg.x.tr g3))
theorem w_M_finds {H x0 wd mv pr m n tk most acts : Nat} {cs : List (List (Nat × Nat))} {S : ZSt} {Q : ZOut → ZSt → Prop} (hH : 1 ≤ H ∧ H ≤ 3) (hx : x0 ≤ 12) (eH : H = if x0 < 3 then x0 else 3) (hw : wd ≤ 3) (hmv : mv ≤ 1) (hpr : pr ≤ 1) (hm : 1 ≤ m ∧ m ≤ 3) (hn : n ≤ 9) (hmo : most ≤ 20000) (hac : acts ≤ 3) (htk : tk < 6) (hft : wfT cs) (hS : zSh S) (v0 : zI S 132 0 = nI x0) (v3 : zI S 132 3 = nI wd) (v4 : zI S 132 4 = nI pr) (v5 : zI S 132 5 = nI mv) (h34 : zI S 130 34 = - nI 1) (hT : jTM S tk cs) (h1 : ∀ l q, (skL H wd mv pr cs m n most acts 1 0).1 = some (l, q) → ∀ S', zJX S S' → zI S' 130 44 = nI l → zI S' 130 45 = nI (skL H wd mv pr cs m n most acts 1 0).2 → zI S' 130 46 = nI (1 + rvI (dsA (letF H l wd mv pr) l cs m n) (letF H l wd mv pr).length l (most - (skL H wd mv pr cs m n most acts 1 0).2) q) → zFd S' l (letF H l wd mv pr) q 3 → Q (.inl none) S') (h2 : (skL H wd mv pr cs m n most acts 1 0).1 = none → ∀ S', zJX S S' → zI S' 130 44 = - nI 1 → zI S' 130 45 = nI (skL H wd mv pr cs m n most acts 1 0).2 → Q (.inl none) S') : zC m_M_finds [.ref 130, .int (nI tk), .int (nI m), .int (nI n), .int (nI acts), .int (nI most)] S Q := by
  have x1 : zJX S (zsI (zsI (zsI S 130 44 (- nI 1)) 130 45 (nI 0)) 130 46 (nI 0)) := ⟨((zJ.rf.I rfl).I rfl).I rfl, ⟨fun j hj => by rw [zI_o (zkey46 hj).2.2, zI_o (zkey46 hj).2.1, zI_o (zkey46 hj).1], fun q _ => by rw [zI_ne _ _ (by omega), zI_ne _ _ (by omega), zI_ne _ _ (by omega)], fun q _ => ⟨by rw [zI_ne _ _ (by omega), zI_ne _ _ (by omega), zI_ne _ _ (by omega)], by rw [zI_ne _ _ (by omega), zI_ne _ _ (by omega), zI_ne _ _ (by omega)], by rw [zI_ne _ _ (by omega), zI_ne _ _ (by omega), zI_ne _ _ (by omega)]⟩⟩, by rw [zI_o (by omega), zI_o (by omega), zI_o (by omega)]⟩
  have core := w_M_f26 (Q := Q) (u9 := none) hH hw hmv hpr hm hn hmo hac htk hft acts 1 (t := 0) (x1.sh hS) (by rw [x1.1.2 132 rfl]; exact v3) (by rw [x1.1.2 132 rfl]; exact v4) (by rw [x1.1.2 132 rfl]; exact v5) (by rw [x1.2.1.1 34 rfl]; exact h34) (hT.G x1.1) (by rw [zI_o (by omega), zI_o (by omega), zI_s]) zI_s (by omega) (by omega) (by omega) (fun l q h S' g => h1 l q h S' (x1.tr g)) (fun h S' g => h2 h S' (x1.tr g))
  refine b_M_finds hS ⟨zinl rfl, fun h9 => ?_, fun h9 => ⟨zinl rfl, ?_⟩⟩
  · rw [v0] at h9
    have e : H = 3 := by
      rw [eH]
      by_cases c : x0 < 3
      · exact absurd h9 (nI_ge c (by omega))
      · rw [if_neg c]
    rw [e] at core
    exact core
  · rw [v0] at h9 ⊢
    have e : H = x0 := by
      rw [eH]
      by_cases c : x0 < 3
      · rw [if_pos c]
      · exact absurd (nI_le (show 3 ≤ x0 by omega) (by omega)) h9
    rw [e] at core
    exact core
