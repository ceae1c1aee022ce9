/-! numbers told apart: the reference's side -/
def lIA : List Nat := [130, 136, 137, 138, 139, 145, 146, 147, 148, 149, 150, 151]
def zJM (S S' : ZSt) : Prop := zJ lIA S S' ∧ zKM S S' ∧ zI S' 130 0 = zI S 130 0
theorem zJM.rf {S : ZSt} : zJM S S := ⟨zJ.rf, ⟨fun _ _ => rfl, fun _ _ => rfl, fun _ _ => ⟨rfl, rfl, rfl⟩⟩, rfl⟩
theorem zJM.tr {S S1 S2 : ZSt} (h1 : zJM S S1) (h2 : zJM S1 S2) : zJM S S2 := ⟨h1.1.tr h2.1, h1.2.1.tr h2.2.1, h2.2.2.trans h1.2.2⟩
theorem zJM.sh {S S1 : ZSt} (h : zJM S S1) (hS : zSh S) : zSh S1 := h.1.sh hS
theorem zJM.ofB {S S1 : ZSt} (h : zJB S S1) : zJM S S1 := ⟨zJ3 h.1 (zsub_of rfl), ⟨fun j hj => h.2 j (by have := zkey hj; omega), fun q _ => by rw [h.1.2 136 rfl], fun q _ => ⟨by rw [h.1.2 137 rfl], by rw [h.1.2 138 rfl], by rw [h.1.2 139 rfl]⟩⟩, h.2 0 (by omega)⟩
theorem zJM.ofP {S S1 : ZSt} (h : zJ [151] S S1) : zJM S S1 := ⟨zJ3 h (zsub_of rfl), ⟨fun j _ => by rw [h.2 130 rfl], fun q _ => by rw [h.2 136 rfl], fun q _ => ⟨by rw [h.2 137 rfl], by rw [h.2 138 rfl], by rw [h.2 139 rfl]⟩⟩, by rw [h.2 130 rfl]⟩
theorem zJM.ofF {S S1 : ZSt} (h : zJ [145, 147] S S1) : zJM S S1 := ⟨zJ3 h (zsub_of rfl), ⟨fun j _ => by rw [h.2 130 rfl], fun q _ => by rw [h.2 136 rfl], fun q _ => ⟨by rw [h.2 137 rfl], by rw [h.2 138 rfl], by rw [h.2 139 rfl]⟩⟩, by rw [h.2 130 rfl]⟩
theorem zJM.ofG {S S1 : ZSt} (h : zJ [130, 146, 147] S S1) (k : zK36 S S1) : zJM S S1 := ⟨zJ3 h (zsub_of rfl), ⟨fun j hj => k j (by have := zkey hj; omega) (by have := zkey hj; omega), fun q _ => by rw [h.2 136 rfl], fun q _ => ⟨by rw [h.2 137 rfl], by rw [h.2 138 rfl], by rw [h.2 139 rfl]⟩⟩, k 0 (by omega) (by omega)⟩
theorem zJM.ofL {S S1 : ZSt} (h : zJL S S1) : zJM S S1 := ⟨zJ3 h.1 (zsub_of rfl), ⟨fun j _ => by rw [h.1.2 130 rfl], fun q hq => h.2.1 q hq, fun q hq => h.2.2 q hq⟩, by rw [h.1.2 130 rfl]⟩
theorem jLR.of {S S1 : ZSt} {F : List Lt} (h : jLR S F) (e : zI S1 130 39 = zI S 130 39) (e1 : zI S1 148 = zI S 148) (e2 : zI S1 149 = zI S 149) (e3 : zI S1 150 = zI S 150) : jLR S1 F := by
  unfold jLR
  rw [e, e1, e2, e3]
  exact h
theorem w_M_iA1 {F : List Lt} {n a b : Nat} {x1 : Int32} {Q : ZOut → ZSt → Prop} {S : ZSt} {pk : Nat → Nat} {u6 u7 : Option Value} (hok : ∀ x ∈ F, okL n x = true) (hF : F.length ≤ 36) (h0 : 0 < F.length) (hn : 1 ≤ n ∧ n ≤ 3) (ha : a ≤ 9) (hb : b ≤ 9) (hS : zSh S) (hJ : jLR S F) (hp : jPR S F n pk) (h34 : zI S 130 34 = - nI 1) (h1 : tstA F n a b pk = true → ∀ S', zJM S S' → Q (.inl (some (.int (nI 1)))) S') (h2 : tstA F n a b pk = false → ∀ S' u6 u7, zJM S S' → jLR S' F → jPR S' F n (advK F.length n pk).2 → zW 4 m_M_isApart 24 [some (.ref 130), some (.int x1), some (.int (nI a)), some (.int (nI b)), some (.int (nI n)), some (.int (zBo (advK F.length n pk).1)), u6, u7] [] S' Q) : zW 4 m_M_isApart 24 [some (.ref 130), some (.int x1), some (.int (nI a)), some (.int (nI b)), some (.int (nI n)), some (.int (nI 1)), u6, u7] [] S Q := by
  have hW := zWy_p hok hn (fun k hk => (hp k hk).1)
  have hA := zAl_p hok (fun k hk => (hp k hk).1)
  refine b_M_isApart_24 hS ⟨fun h9 => absurd h9 (by decide), fun _ => w_M_lays hF hn.2 hS hJ hp (fun S1 j1 w1 => ?_)⟩
  have m1 := zJM.ofL j1
  have hS1 := m1.sh hS
  refine b_M_isApart_29 hS1 (w_M_fromNumber (m := 1) (by omega) (by omega) hS1 (fun S2 j2 g2 z2 => ?_))
  have m2 := m1.tr (zJM.ofF j2)
  have hS2 := m2.sh hS
  refine b_M_isApart_33 hS2 (w_M_goes hW hA (q := 6) (by omega) (lim := 60) hS2 (w1.J j2 rfl) (by omega) (by rw [m2.2.1.1 34 rfl]; exact h34) g2 z2 (fun S3 j3 k3 q3 => ?_))
  have m3 := m2.tr (zJM.ofG j3 k3)
  have hS3 := m3.sh hS
  refine b_M_isApart_39 hS3 ?_
  rw [q3.2.2.2.2.1, q3.2.2.2.2.2]
  refine w_M_fromNumber (m := 1) (by omega) (by omega) hS3 (fun S4 j4 g4 z4 => ?_)
  have m4 := m3.tr (zJM.ofF j4)
  have hS4 := m4.sh hS
  refine b_M_isApart_49 hS4 (w_M_goes hW hA (q := 6) (by omega) (lim := 60) hS4 (((w1.J j2 rfl).J j3 rfl).J j4 rfl) (by omega) (by rw [m4.2.1.1 34 rfl]; exact h34) g4 z4 (fun S5 j5 k5 q5 => ?_))
  have m5 := m4.tr (zJM.ofG j5 k5)
  have hS5 := m5.sh hS
  refine b_M_isApart_55 hS5 ?_
  rw [q5.2.2.2.2.1, q5.2.2.2.2.2]
  have s1 : (enP F n pk a).2 ≤ 9 := go_said hW 60 _ _ 0 0 hW.1
  have s2 : (enP F n pk b).2 ≤ 9 := go_said hW 60 _ _ 0 0 hW.1
  have e1 : (enP F n pk a).1 ≤ 3 := go_end
  have e2 : (enP F n pk b).1 ≤ 3 := go_end
  have eq1 : ∀ {x y : Nat}, x ≤ 9 → y ≤ 9 → ¬ nI x = nI y → Nat.beq x y = false := fun {x y} _ _ h => by
    cases hb : Nat.beq x y with
    | false => rfl
    | true => exact absurd (by rw [Nat.eq_of_beq_eq_true hb]) h
  refine ⟨fun h9 => ⟨rfl, h1 ?_ S5 m5⟩, fun h9 => ⟨fun h8 => ?_, fun h8 => ⟨rfl, h1 ?_ S5 m5⟩⟩⟩
  · have : Nat.beq (enP F n pk a).1 (enP F n pk b).1 = false := eq1 (by omega) (by omega) h9
    unfold tstA
    rw [this]
    rfl
  · have t1 : (enP F n pk a).1 = (enP F n pk b).1 := nEq (by omega) (by omega) (Classical.not_not.mp h9)
    have t2 : (enP F n pk a).2 = (enP F n pk b).2 := nEq (by omega) (by omega) h8
    have ht : tstA F n a b pk = false := by
      unfold tstA
      rw [t1, t2, Nat.beq_refl, Nat.beq_refl]
      rfl
    have hJ5 : jLR S5 F := hJ.of (by rw [k5 39 (by omega) (by omega), j4.2 130 rfl, k3 39 (by omega) (by omega), j2.2 130 rfl, j1.1.2 130 rfl]) (by rw [j5.2 148 rfl, j4.2 148 rfl, j3.2 148 rfl, j2.2 148 rfl, j1.1.2 148 rfl]) (by rw [j5.2 149 rfl, j4.2 149 rfl, j3.2 149 rfl, j2.2 149 rfl, j1.1.2 149 rfl]) (by rw [j5.2 150 rfl, j4.2 150 rfl, j3.2 150 rfl, j2.2 150 rfl, j1.1.2 150 rfl])
    have hp5 : jPR S5 F n pk := fun k hk => by
      rw [j5.2 151 rfl, j4.2 151 rfl, j3.2 151 rfl, j2.2 151 rfl, j1.1.2 151 rfl]
      exact hp k hk
    refine w_M_picksOn hF h0 hn.2 hS5 hJ5.1 hp5 (fun S6 j6 p6 => b_M_isApart_68 (j6.sh hS5) (h2 ht S6 _ _ (m5.tr (zJM.ofP j6)) (hJ5.of (by rw [j6.2 130 rfl]) (j6.2 148 rfl) (j6.2 149 rfl) (j6.2 150 rfl)) p6))
  · have : Nat.beq (enP F n pk a).2 (enP F n pk b).2 = false := eq1 (by omega) (by omega) h8
    unfold tstA
    rw [this, Bool.and_false]
    rfl
theorem w_M_iA24 {F : List Lt} {n a b : Nat} {x1 : Int32} {Q : ZOut → ZSt → Prop} (hok : ∀ x ∈ F, okL n x = true) (hF : F.length ≤ 36) (h0 : 0 < F.length) (hn : 1 ≤ n ∧ n ≤ 3) (ha : a ≤ 9) (hb : b ≤ 9) : ∀ (f : Nat) {S : ZSt} {pk : Nat → Nat} {u6 u7 : Option Value}, zSh S → jLR S F → jPR S F n pk → zI S 130 34 = - nI 1 → rk F.length pk n + (f + 1) = F.length ^ n → (apI F n a b (f + 1) pk = true → ∀ S', zJM S S' → Q (.inl (some (.int (nI 1)))) S') → (apI F n a b (f + 1) pk = false → ∀ S' u5 u6 u7, zJM S S' → zW 4 m_M_isApart 2 [some (.ref 130), some (.int x1), some (.int (nI a)), some (.int (nI b)), some (.int (nI (n + 1))), u5, u6, u7] [] S' Q) → zW 4 m_M_isApart 24 [some (.ref 130), some (.int x1), some (.int (nI a)), some (.int (nI b)), some (.int (nI n)), some (.int (nI 1)), u6, u7] [] S Q
  | f, S, pk, u6, u7, hS, hJ, hp, h34, hr, h1, h2 => by
    obtain ⟨-, a2, a3⟩ := advK_s h0 n pk (fun j hj => (hp j hj).1)
    have eI : apI F n a b (f + 1) pk = if tstA F n a b pk = true then true else apI F n a b f (advK F.length n pk).2 := rfl
    refine w_M_iA1 hok hF h0 hn ha hb hS hJ hp h34 (fun ht S' m => h1 (by rw [eI, if_pos ht]) S' m) (fun ht S' u6 u7 m hJ' hp' => ?_)
    have eI2 : apI F n a b (f + 1) pk = apI F n a b f (advK F.length n pk).2 := by
      rw [eI, ht]
      rfl
    rw [eI2] at h1 h2
    match f, hr, h1, h2 with
    | 0, hr, h1, h2 =>
      have ea : (advK F.length n pk).1 = false := by
        rw [a2]
        exact decide_eq_false (by omega)
      rw [ea]
      refine b_M_isApart_24 (m.sh hS) ⟨fun _ => ?_, fun h9 => absurd rfl h9⟩
      rw [nI_add]
      exact h2 rfl S' _ _ _ m
    | f + 1, hr, h1, h2 =>
      have ea : (advK F.length n pk).1 = true := by
        rw [a2]
        exact decide_eq_true (by omega)
      rw [ea]
      exact w_M_iA24 hok hF h0 hn ha hb f (m.sh hS) hJ' hp' (by rw [m.2.1.1 34 rfl]; exact h34) (by rw [a3 ea]; omega) (fun h S3 m3 => h1 h S3 (m.tr m3)) (fun h S3 u5 u6 u7 m3 => h2 h S3 u5 u6 u7 (m.tr m3))
theorem w_M_iA12 {F : List Lt} {n : Nat} {x1 x2 x3 x4 : Int32} {Q : ZOut → ZSt → Prop} (h0 : 0 < F.length) (hn : n ≤ 3) : ∀ (f i : Nat) {S : ZSt} {u6 u7 : Option Value}, zSh S → f + i = 3 → (∀ j, j < i → zI S 151 j = nI 0) → (∀ S' u6 u7, zJ [151] S S' → jPR S' F n (fun _ => 0) → zW 4 m_M_isApart 24 [some (.ref 130), some (.int x1), some (.int x2), some (.int x3), some (.int x4), some (.int (nI 1)), u6, u7] [] S' Q) → zW 4 m_M_isApart 12 [some (.ref 130), some (.int x1), some (.int x2), some (.int x3), some (.int x4), some (.int (nI i)), u6, u7] [] S Q
  | 0, i, S, u6, u7, hS, hi, hz, hQ => b_M_isApart_12 hS ⟨fun _ => hQ S _ _ zJ.rf (fun k hk => ⟨h0, hz k (by omega)⟩), fun h9 => absurd (nI_le (show 3 ≤ i by omega) (by omega)) h9⟩
  | f + 1, i, S, u6, u7, hS, hi, hz, hQ => by
    refine b_M_isApart_12 hS ⟨fun h9 => absurd h9 (nI_ge (by omega) (by omega)), fun _ => ⟨zin (by omega) (by omega), ?_⟩⟩
    rw [zcl9 (by omega), nI_add]
    have j1 : zJ [151] S (zsI S 151 i (nI 0)) := zJ.rf.I rfl
    refine w_M_iA12 h0 hn f (i + 1) (j1.sh hS) (by omega) (fun j hj => ?_) (fun S' u6 u7 j' => hQ S' u6 u7 (j1.tr j'))
    by_cases e : j = i
    · rw [e, zI_s]
    · rw [zI_o e]
      exact hz j (by omega)
theorem rk_0 {N : Nat} : ∀ n, rk N (fun _ => 0) n = 0
  | 0 => rfl
  | n + 1 => by
    show rk N (fun _ => 0) n * N + 0 = 0
    rw [rk_0 n, Nat.zero_mul]
theorem w_M_iA2 {wd mv pr a b acts : Nat} {Q : ZOut → ZSt → Prop} (hw : wd ≤ 3) (hm : mv ≤ 1) (hp : pr ≤ 1) (ha : a ≤ 9) (hb : b ≤ 9) (hac : acts ≤ 3) : ∀ (f n : Nat) {S : ZSt} {u5 u6 u7 : Option Value}, zSh S → zI S 132 3 = nI wd → zI S 132 4 = nI pr → zI S 132 5 = nI mv → zI S 130 34 = - nI 1 → 1 ≤ n → f + n = acts + 1 → (∀ S', zJM S S' → Q (.inl (some (.int (zBo (apLen wd mv pr a b f n))))) S') → zW 4 m_M_isApart 2 [some (.ref 130), some (.int (nI acts)), some (.int (nI a)), some (.int (nI b)), some (.int (nI n)), u5, u6, u7] [] S Q
  | 0, n, S, u5, u6, u7, hS, v3, v4, v5, h34, h1, hf, hQ => b_M_isApart_2 hS ⟨fun _ => ⟨rfl, hQ S zJM.rf⟩, fun h9 => absurd (nI_lt (show acts < n by omega) (by omega)) h9⟩
  | f + 1, n, S, u5, u6, u7, hS, v3, v4, v5, h34, h1, hf, hQ => by
    have hn : 1 ≤ n ∧ n ≤ 3 := by omega
    obtain ⟨hok, hL⟩ := chkL_at (H := 1) (by omega) hn hw hm hp
    have hpos : 0 < (letF 1 n wd mv pr).length := by
      unfold letF
      simp only [List.length_append, List.length_cons, List.length_nil]
      omega
    have hNp : 0 < (letF 1 n wd mv pr).length ^ n := Nat.pow_pos hpos
    refine b_M_isApart_2 hS ⟨fun h9 => absurd h9 (nI_nlt (by omega) (by omega)), fun _ => w_M_lists hS (H := 1) (Or.inr ⟨rfl, rfl⟩) (by omega) hn hw hm hp v3 v4 v5 (fun S1 j1 l1 => b_M_isApart_10 (j1.sh hS) ?_)⟩
    have m1 := zJM.ofB j1
    have hS1 := m1.sh hS
    refine w_M_iA12 (F := letF 1 n wd mv pr) (n := n) hpos hn.2 3 0 hS1 (by omega) (fun j hj => by omega) (fun S2 u6 u7 j2 p2 => ?_)
    have m2 := m1.tr (zJM.ofP j2)
    have eL : apLen wd mv pr a b (f + 1) n = if apI (letF 1 n wd mv pr) n a b ((letF 1 n wd mv pr).length ^ n) (fun _ => 0) = true then true else apLen wd mv pr a b f (n + 1) := rfl
    have hsz : (letF 1 n wd mv pr).length ^ n = (letF 1 n wd mv pr).length ^ n - 1 + 1 := by omega
    rw [hsz] at eL
    refine w_M_iA24 hok hL hpos hn ha hb ((letF 1 n wd mv pr).length ^ n - 1) (m2.sh hS) (l1.of (by rw [j2.2 130 rfl]) (j2.2 148 rfl) (j2.2 149 rfl) (j2.2 150 rfl)) p2 (by rw [m2.2.1.1 34 rfl]; exact h34) (by rw [rk_0]; omega) (fun h S' m' => ?_) (fun h S' u5 u6 u7 m' => ?_)
    · have hq := hQ S' (m2.tr m')
      rw [eL, if_pos h] at hq
      exact hq
    · have mt := m2.tr m'
      rw [eL, h, if_neg (by decide)] at hQ
      exact w_M_iA2 hw hm hp ha hb hac f (n + 1) (mt.sh hS) (by rw [mt.1.2 132 rfl]; exact v3) (by rw [mt.1.2 132 rfl]; exact v4) (by rw [mt.1.2 132 rfl]; exact v5) (by rw [mt.2.1.1 34 rfl]; exact h34) (by omega) (by omega) (fun S3 m3 => hQ S3 (mt.tr m3))
