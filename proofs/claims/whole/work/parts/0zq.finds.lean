/-! ways are sought: the reference's side -/
def lIG : List Nat := [130, 136, 137, 138, 139, 144, 145, 146, 147, 148, 149, 150, 151]
def lIX : List Nat := [130, 136, 137, 138, 139, 144, 145, 146, 147, 148, 149, 150, 151, 152, 153, 154, 155]
def zJG (S S' : ZSt) : Prop := zJ lIG S S' ∧ zKM S S' ∧ ∀ j, j = 0 ∨ j = 44 ∨ j = 45 → zI S' 130 j = zI S 130 j
def zJX (S S' : ZSt) : Prop := zJ lIX S S' ∧ zKM S S' ∧ zI S' 130 0 = zI S 130 0
theorem zJG.rf {S : ZSt} : zJG S S := ⟨zJ.rf, zKM.rf, fun _ _ => rfl⟩
theorem zJG.tr {S S1 S2 : ZSt} (h1 : zJG S S1) (h2 : zJG S1 S2) : zJG S S2 := ⟨h1.1.tr h2.1, h1.2.1.tr h2.2.1, fun j hj => (h2.2.2 j hj).trans (h1.2.2 j hj)⟩
theorem zJG.sh {S S1 : ZSt} (h : zJG S S1) (hS : zSh S) : zSh S1 := h.1.sh hS
theorem zJX.rf {S : ZSt} : zJX S S := ⟨zJ.rf, zKM.rf, rfl⟩
theorem zJX.tr {S S1 S2 : ZSt} (h1 : zJX S S1) (h2 : zJX S1 S2) : zJX S S2 := ⟨h1.1.tr h2.1, h1.2.1.tr h2.2.1, h2.2.2.trans h1.2.2⟩
theorem zJX.sh {S S1 : ZSt} (h : zJX S S1) (hS : zSh S) : zSh S1 := h.1.sh hS
theorem zJG.x {S S1 : ZSt} (h : zJG S S1) : zJX S S1 := ⟨zJ3 h.1 (zsub_of rfl), h.2.1, h.2.2 0 (Or.inl rfl)⟩
theorem zKM.k38 {S S1 : ZSt} (h : zJ [130, 144, 145, 146, 147] S S1) (k : zK38 S S1) : zKM S S1 := ⟨fun j hj => k j (by have := zkey hj; omega), fun q _ => by rw [h.2 136 rfl], fun q _ => ⟨by rw [h.2 137 rfl], by rw [h.2 138 rfl], by rw [h.2 139 rfl]⟩⟩
theorem zJG.ofA {S S1 : ZSt} (h : zJ [130, 144, 145, 146, 147] S S1) (k : zK38 S S1) : zJG S S1 := ⟨zJ3 h (zsub_of rfl), zKM.k38 h k, fun j hj => k j (by omega)⟩
theorem zJG.ofP {S S1 : ZSt} (h : zJ [151] S S1) : zJG S S1 := ⟨zJ3 h (zsub_of rfl), (zJM.ofP h).2.1, fun j _ => by rw [h.2 130 rfl]⟩
theorem zJG.ofL {S S1 : ZSt} (h : zJL S S1) : zJG S S1 := ⟨zJ3 h.1 (zsub_of rfl), (zJM.ofL h).2.1, fun j _ => by rw [h.1.2 130 rfl]⟩
theorem zJG.ofB {S S1 : ZSt} (h : zJB S S1) : zJG S S1 := ⟨zJ3 h.1 (zsub_of rfl), (zJM.ofB h).2.1, fun j hj => h.2 j (by omega)⟩
theorem zkey46 {j : Nat} (h : zmem j zKeys = true) : j ≠ 44 ∧ j ≠ 45 ∧ j ≠ 46 := by
  refine ⟨fun e => ?_, fun e => ?_, fun e => ?_⟩ <;> (rw [e] at h; exact absurd h (by decide))
theorem zJG.of46 {S : ZSt} {v : Int32} : zJG S (zsI S 130 46 v) := ⟨zJ.rf.I rfl, ⟨fun j hj => zI_o (zkey46 hj).2.2, fun q _ => by rw [zI_ne _ _ (by omega)], fun q _ => ⟨by rw [zI_ne _ _ (by omega)], by rw [zI_ne _ _ (by omega)], by rw [zI_ne _ _ (by omega)]⟩⟩, fun j hj => zI_o (by omega)⟩
theorem jPR.of {S S1 : ZSt} {F : List Lt} {n : Nat} {pk : Nat → Nat} (h : jPR S F n pk) (e : zI S1 151 = zI S 151) : jPR S1 F n pk := fun k hk => by
  rw [e]
  exact h k hk
theorem jTM.G {S S1 : ZSt} {t : Nat} {cs : List (List (Nat × Nat))} (h : jTM S t cs) (g : zJ lIX S S1) : jTM S1 t cs := h.cg (g.2 140 rfl) (g.2 141 rfl) (g.2 142 rfl) (g.2 143 rfl)
/-- one way is tried -/
theorem w_M_fi1 {F : List Lt} {k m n t most tk : Nat} {x4 x7 : Int32} {cs : List (List (Nat × Nat))} {S : ZSt} {pk : Nat → Nat} {Q : ZOut → ZSt → Prop} (hok : ∀ x ∈ F, okL k x = true) (hF : F.length ≤ 36) (hk : 1 ≤ k ∧ k ≤ 3) (hm : 1 ≤ m ∧ m ≤ 3) (hn : n ≤ 9) (hmo : most ≤ 20000) (htk : tk < 6) (hf : wfT cs) (hS : zSh S) (hJ : jLR S F) (hp : jPR S F k pk) (h34 : zI S 130 34 = - nI 1) (hT : jTM S tk cs) (ht : t < most) (h : ∀ S', zJG S S' → zI S' 130 46 = zI S 130 46 → jLR S' F → jPR S' F k pk → jWM S' 6 k (pK F pk) (pA F pk) (pB F pk) → (zI S' 130 38 = - nI 1 ↔ dsA F k cs m n pk = true) → zW 5 m_M_finds 69 [some (.ref 130), some (.int (nI tk)), some (.int (nI m)), some (.int (nI n)), some (.int x4), some (.int (nI most)), some (.int (nI (t + 1))), some (.int x7), some (.int (nI k)), some (.int (nI 1))] [] S' Q) : zW 5 m_M_finds 52 [some (.ref 130), some (.int (nI tk)), some (.int (nI m)), some (.int (nI n)), some (.int x4), some (.int (nI most)), some (.int (nI t)), some (.int x7), some (.int (nI k)), some (.int (nI 1))] [] S Q := by
  have hW := zWy_p hok hk (fun j hj => (hp j hj).1)
  have hA := zAl_p hok (fun j hj => (hp j hj).1)
  refine b_M_finds_52 hS ⟨fun h9 => absurd h9 (by decide), fun _ => ⟨fun h9 => absurd h9 (nI_ge ht (by omega)), fun _ => w_M_lays hF hk.2 hS hJ hp (fun S1 j1 w1 => b_M_finds_60 (j1.1.sh hS) ?_)⟩⟩
  have g1 := zJG.ofL j1
  have hS1 := g1.sh hS
  rw [nI_add]
  refine w_M_goesAll_f hn hm (q := 6) (lim := 60) (by omega) htk hf hS1 ⟨hW, hA, by omega, w1, by rw [g1.2.1.1 34 rfl]; exact h34⟩ (hT.G (zJ3 g1.1 (zsub_of rfl))) (fun S2 j2 k2 e2 => ?_)
  refine h S2 (g1.tr (zJG.ofA j2 k2)) (by rw [k2 46 (by omega), j1.1.2 130 rfl]) (hJ.of (by rw [k2 39 (by omega), j1.1.2 130 rfl]) (by rw [j2.2 148 rfl, j1.1.2 148 rfl]) (by rw [j2.2 149 rfl, j1.1.2 149 rfl]) (by rw [j2.2 150 rfl, j1.1.2 150 rfl])) (hp.of (by rw [j2.2 151 rfl, j1.1.2 151 rfl])) (w1.J j2 rfl) ?_
  rw [e2]
  exact fL_ds hm hn
theorem w_M_fE {x1 x2 x3 x4 x5 x6 x7 x8 : Int32} {u9 : Option Value} {S : ZSt} {Q : ZOut → ZSt → Prop} (hS : zSh S) (h44 : ¬ zI S 130 44 = - nI 1) (hQ : Q (.inl none) S) : zW 5 m_M_finds 26 [some (.ref 130), some (.int x1), some (.int x2), some (.int x3), some (.int x4), some (.int x5), some (.int x6), some (.int x7), some (.int x8), u9] [] S Q := b_M_finds_26 hS ⟨fun _ => ⟨fun _ => hQ, fun h9 => absurd h44 h9⟩, fun _ => ⟨fun _ => ⟨fun _ => hQ, fun h9 => absurd h44 h9⟩, fun h9 => absurd h44 h9⟩⟩
/-- behind the found one -/
theorem w_M_fB {F : List Lt} {k m n most tk : Nat} {x4 x7 : Int32} {cs : List (List (Nat × Nat))} {Q : ZOut → ZSt → Prop} (hok : ∀ x ∈ F, okL k x = true) (hF : F.length ≤ 36) (h0 : 0 < F.length) (hk : 1 ≤ k ∧ k ≤ 3) (hm : 1 ≤ m ∧ m ≤ 3) (hn : n ≤ 9) (hmo : most ≤ 20000) (htk : tk < 6) (hf : wfT cs) : ∀ (f t r : Nat) {S : ZSt} {pk : Nat → Nat}, zSh S → jLR S F → jPR S F k (advK F.length k pk).2 → zI S 130 34 = - nI 1 → jTM S tk cs → ¬ zI S 130 44 = - nI 1 → zI S 130 46 = nI r → f + t = most → (∀ S', zJG S S' → zI S' 130 46 = nI (r + rvI (dsA F k cs m n) F.length k f pk) → Q (.inl none) S') → zW 5 m_M_finds 52 [some (.ref 130), some (.int (nI tk)), some (.int (nI m)), some (.int (nI n)), some (.int x4), some (.int (nI most)), some (.int (nI t)), some (.int x7), some (.int (nI k)), some (.int (zBo (advK F.length k pk).1))] [] S Q
  | 0, t, r, S, pk, hS, hJ, hp, h34, hT, h44, h46, hft, hQ => b_M_finds_52 hS ⟨fun _ => w_M_fE hS h44 (hQ S zJG.rf h46), fun _ => ⟨fun _ => w_M_fE hS h44 (hQ S zJG.rf h46), fun h9 => absurd (nI_le (show most ≤ t by omega) (by omega)) h9⟩⟩
  | f + 1, t, r, S, pk, hS, hJ, hp, h34, hT, h44, h46, hft, hQ => by
    have eI : rvI (dsA F k cs m n) F.length k (f + 1) pk = if (advK F.length k pk).1 = true then (if dsA F k cs m n (advK F.length k pk).2 = true then 1 else 0) + rvI (dsA F k cs m n) F.length k f (advK F.length k pk).2 else 0 := rfl
    rw [eI] at hQ
    cases ha : (advK F.length k pk).1 with
    | false =>
      rw [ha, if_neg (by decide)] at hQ
      exact b_M_finds_52 hS ⟨fun _ => w_M_fE hS h44 (hQ S zJG.rf h46), fun h9 => absurd rfl h9⟩
    | true =>
      rw [ha, if_pos rfl] at hQ
      refine w_M_fi1 hok hF hk hm hn hmo htk hf hS hJ hp h34 hT (by omega) (fun S1 g1 e1 l1 p1 w1 d1 => b_M_finds_69 (g1.sh hS) ?_)
      have hS1 := g1.sh hS
      have n44 : ¬ zI S1 130 44 = - nI 1 := by rw [g1.2.2 44 (by omega)]; exact h44
      cases hc : dsA F k cs m n (advK F.length k pk).2 with
      | false =>
        rw [hc, if_neg (by decide), Nat.zero_add] at hQ
        refine ⟨fun _ => w_M_picksOn hF h0 hk.2 hS1 l1.1 p1 (fun S2 j2 p2 => b_M_finds_90 (j2.sh hS1) ?_), fun h9 => absurd (d1.mp (Classical.not_not.mp h9)) (by rw [hc]; decide)⟩
        have g2 := g1.tr (zJG.ofP j2)
        exact w_M_fB hok hF h0 hk hm hn hmo htk hf f (t + 1) r (j2.sh hS1) (l1.of (by rw [j2.2 130 rfl]) (j2.2 148 rfl) (j2.2 149 rfl) (j2.2 150 rfl)) p2 (by rw [g2.2.1.1 34 rfl]; exact h34) (hT.G (zJ3 g2.1 (zsub_of rfl))) (by rw [g2.2.2 44 (by omega)]; exact h44) (by rw [j2.2 130 rfl, e1]; exact h46) (by omega) (fun S' g' => hQ S' (g2.tr g'))
      | true =>
        rw [hc, if_pos rfl, ← Nat.add_assoc] at hQ
        refine ⟨fun h9 => absurd (d1.mpr hc) h9, fun _ => ⟨fun _ => ?_, fun h9 => absurd n44 h9⟩⟩
        rw [e1, h46, nI_add]
        have g2 : zJG S1 (zsI S1 130 46 (nI (r + 1))) := zJG.of46
        have hS2 := g2.sh hS1
        refine w_M_picksOn (F := F) (pk := (advK F.length k pk).2) hF h0 hk.2 hS2 ((zI_o (by omega)).trans l1.1) (p1.of (by rw [zI_ne _ _ (by omega)])) (fun S3 j3 p3 => b_M_finds_90 (j3.sh hS2) ?_)
        have g3 := (g1.tr g2).tr (zJG.ofP j3)
        exact w_M_fB hok hF h0 hk hm hn hmo htk hf f (t + 1) (r + 1) (j3.sh hS2) (l1.of (by rw [j3.2 130 rfl, zI_o (by omega)]) (by rw [j3.2 148 rfl, zI_ne _ _ (by omega)]) (by rw [j3.2 149 rfl, zI_ne _ _ (by omega)]) (by rw [j3.2 150 rfl, zI_ne _ _ (by omega)])) p3 (by rw [g3.2.1.1 34 rfl]; exact h34) (hT.G (zJ3 g3.1 (zsub_of rfl))) (by rw [g3.2.2 44 (by omega)]; exact h44) (by rw [j3.2 130 rfl, zI_s]) (by omega) (fun S' g' => hQ S' (g3.tr g'))
