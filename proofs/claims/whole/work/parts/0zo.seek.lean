/-! ways are sought: the object's side, all lengths -/
def skL (H wd mv pr : Nat) (cs : List (List (Nat × Nat))) (m n most : Nat) : Nat → Nat → Nat → Option (Nat × (Nat → Nat)) × Nat
  | 0, _, t => (none, t)
  | f + 1, k, t => match (skI (dsA (letF H k wd mv pr) k cs m n) (letF H k wd mv pr).length k most ((letF H k wd mv pr).length ^ k) (fun _ => 0) t).1 with
    | some q => (some (k, q), (skI (dsA (letF H k wd mv pr) k cs m n) (letF H k wd mv pr).length k most ((letF H k wd mv pr).length ^ k) (fun _ => 0) t).2)
    | none => skL H wd mv pr cs m n most f (k + 1) (skI (dsA (letF H k wd mv pr) k cs m n) (letF H k wd mv pr).length k most ((letF H k wd mv pr).length ^ k) (fun _ => 0) t).2
theorem skI_le {D : (Nat → Nat) → Bool} {N n most : Nat} : ∀ (f : Nat) (pk : Nat → Nat) (t : Nat), t ≤ most → (skI D N n most f pk t).2 ≤ most
  | 0, pk, t, h => h
  | f + 1, pk, t, h => by
    unfold skI
    split
    · split
      · show t + 1 ≤ most
        omega
      · exact skI_le f _ _ (by omega)
    · exact h
theorem w_Tr_sk5 {H x0 wd mv pr m n o2 most acts : Nat} {cs : List (List (Nat × Nat))} {Q : ZOut → ZSt → Prop} (hH : 1 ≤ H ∧ H ≤ 3) (hx : x0 ≤ 12) (eH : H = if x0 < 3 then x0 else 3) (hw : wd ≤ 3) (hmv : mv ≤ 1) (hpr : pr ≤ 1) (hm : 1 ≤ m ∧ m ≤ 3) (hn : n ≤ 9) (hmo : most ≤ 20000) (hac : acts ≤ 3) : ∀ (f k : Nat) {S : ZSt} {t : Nat} {u8 u9 : Option Value}, zSh S → zStD S → OT S o2 cs → zI S 93 0 = nI x0 → zI S 93 3 = nI wd → zI S 93 4 = nI pr → zI S 93 5 = nI mv → zI S 110 7 = nI t → t ≤ most → 1 ≤ k → f + k = acts + 1 → (∀ l q, (skL H wd mv pr cs m n most f k t).1 = some (l, q) → ∀ S', zH lO S S' → zSh S' → jLO S' (letF H l wd mv pr) → jPO S' (letF H l wd mv pr) l q → zI S' 110 7 = nI (skL H wd mv pr cs m n most f k t).2 → Q (.inl (some (.int (nI 1)))) S') → ((skL H wd mv pr cs m n most f k t).1 = none → ∀ S', zH lO S S' → zSh S' → zI S' 110 7 = nI (skL H wd mv pr cs m n most f k t).2 → Q (.inl (some (.int (nI 0)))) S') → zW 6 m_Tr_seek 5 [some (.ref 110), some (.ref o2), some (.ref 93), some (.int (nI m)), some (.int (nI n)), some (.int (nI acts)), some (.int (nI most)), some (.int (nI k)), u8, u9] [] S Q
  | 0, k, S, t, u8, u9, hS, hD, ht, v0, v3, v4, v5, e7, htm, h1k, hf, h1, h2 => b_Tr_seek_5 hS ⟨fun _ => ⟨rfl, h2 rfl S zH.rf hS e7⟩, fun h9 => absurd (nI_lt (show acts < k by omega) (by omega)) h9⟩
  | f + 1, k, S, t, u8, u9, hS, hD, ht, v0, v3, v4, v5, e7, htm, h1k, hf, h1, h2 => by
    have hk : 1 ≤ k ∧ k ≤ 3 := by omega
    obtain ⟨hok, hL⟩ := chkL_at hH hk hw hmv hpr
    have hpos : 0 < (letF H k wd mv pr).length := by
      unfold letF
      simp only [List.length_append, List.length_cons, List.length_nil]
      omega
    have hN : (letF H k wd mv pr).length ^ k < 2 ^ 31 := Nat.lt_of_le_of_lt (Nat.le_trans (Nat.pow_le_pow_left hL k) (Nat.pow_le_pow_right (by omega) hk.2)) (by decide)
    refine b_Tr_seek_5 hS ⟨fun h9 => absurd h9 (nI_nlt (by omega) (by omega)), fun _ => ⟨fun h9 => absurd h9 (nI_nlt (by omega) (by omega)), fun _ => ⟨zinl rfl, ?_⟩⟩⟩
    have eh : (if zI S 93 0 < nI 3 then zI S 93 0 else nI 3) = nI H := by
      rw [v0, eH]
      by_cases c : x0 < 3
      · rw [if_pos c, if_pos (nI_lt c (by omega))]
      · rw [if_neg c, if_neg (nI_nlt (by omega) (by omega))]
    rw [eh]
    refine w_Tr_begin hS hH hk hw hmv hpr v3 v4 v5 (fun S1 j1 l1 p1 => b_Tr_seek_20 (j1.sh hS) ?_)
    have hS1 := j1.sh hS
    have g1 : zH lO S S1 := j1.1.hO rfl
    refine w_Tr_wol hL hk.2 hS1 l1 p1.1 (b_Tr_seek_22 hS1 ?_)
    have eL : skL H wd mv pr cs m n most (f + 1) k t = match (skI (dsA (letF H k wd mv pr) k cs m n) (letF H k wd mv pr).length k most ((letF H k wd mv pr).length ^ k) (fun _ => 0) t).1 with
      | some q => (some (k, q), (skI (dsA (letF H k wd mv pr) k cs m n) (letF H k wd mv pr).length k most ((letF H k wd mv pr).length ^ k) (fun _ => 0) t).2)
      | none => skL H wd mv pr cs m n most f (k + 1) (skI (dsA (letF H k wd mv pr) k cs m n) (letF H k wd mv pr).length k most ((letF H k wd mv pr).length ^ k) (fun _ => 0) t).2 := rfl
    rw [eL] at h1 h2
    refine w_Tr_sk25 hok hL hpos hk hm hn hmo hN ((letF H k wd mv pr).length ^ k) 0 (pk := fun _ => 0) (pk0 := fun _ => 0) (t := t) hS1 (g1.D hD) l1 p1 (ht.H g1) (by rw [j1.2 7 (by omega)]; exact e7) htm (by omega) (fun _ => rfl) (fun h9 => by omega) (fun q hq S' g' s' l' p' e' => ?_) (fun hq S' u8 u9 g' s' e' => ?_)
    · rw [hq] at h1
      exact h1 k q rfl S' (g1.tr g') s' l' p' e'
    · rw [hq] at h1 h2
      have gg := g1.tr g'
      exact w_Tr_sk5 hH hx eH hw hmv hpr hm hn hmo hac f (k + 1) s' (gg.D hD) (ht.H gg) (by rw [gg.at hD (c := 93) rfl]; exact v0) (by rw [gg.at hD (c := 93) rfl]; exact v3) (by rw [gg.at hD (c := 93) rfl]; exact v4) (by rw [gg.at hD (c := 93) rfl]; exact v5) e' (skI_le _ _ _ htm) (by omega) (by omega) (fun l q h S3 g3 => h1 l q h S3 (gg.tr g3)) (fun h S3 g3 => h2 h S3 (gg.tr g3))
