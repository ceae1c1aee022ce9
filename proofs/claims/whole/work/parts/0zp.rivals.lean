/-! seeking as a whole, rivals: the object's side -/
def rvI (D : (Nat → Nat) → Bool) (N n : Nat) : Nat → (Nat → Nat) → Nat
  | 0, _ => 0
  | f + 1, pk => if (advK N n pk).1 = true then (if D (advK N n pk).2 = true then 1 else 0) + rvI D N n f (advK N n pk).2 else 0
theorem w_Tr_cR5 {F : List Lt} {k m n o2 most : Nat} {cs : List (List (Nat × Nat))} {Q : ZOut → ZSt → Prop} (hok : ∀ x ∈ F, okL k x = true) (hF : F.length ≤ 36) (h0 : 0 < F.length) (hk : 1 ≤ k ∧ k ≤ 3) (hm : 1 ≤ m ∧ m ≤ 3) (hn : n ≤ 9) (hmo : most ≤ 20000) : ∀ (f t r : Nat) {S : ZSt} {pk : Nat → Nat}, zSh S → zStD S → jLO S F → jPO S F k pk → OT S o2 cs → f + t = most → (∀ S', zH lO S S' → zSh S' → Q (.inl (some (.int (nI (r + rvI (dsA F k cs m n) F.length k f pk))))) S') → zW 6 m_Tr_countRivals 5 [some (.ref 110), some (.ref o2), some (.int (nI m)), some (.int (nI n)), some (.int (nI most)), some (.int (nI r)), some (.int (nI t))] [] S Q
  | 0, t, r, S, pk, hS, hD, hJ, hp, ht, hf, hQ => b_Tr_countRivals_5 hS ⟨fun _ => hQ S zH.rf hS, fun h9 => absurd (nI_le (show most ≤ t by omega) (by omega)) h9⟩
  | f + 1, t, r, S, pk, hS, hD, hJ, hp, ht, hf, hQ => by
    have eI : rvI (dsA F k cs m n) F.length k (f + 1) pk = if (advK F.length k pk).1 = true then (if dsA F k cs m n (advK F.length k pk).2 = true then 1 else 0) + rvI (dsA F k cs m n) F.length k f (advK F.length k pk).2 else 0 := rfl
    rw [eI] at hQ
    refine b_Tr_countRivals_5 hS ⟨fun h9 => absurd h9 (nI_ge (by omega) (by omega)), fun _ => w_Tr_advance hF h0 hk.2 hS hJ hp (fun S1 j1 q1 => b_Tr_countRivals_10 (j1.sh hS) ?_)⟩
    have g1 : zH lO S S1 := j1.hO rfl
    have hS1 := j1.sh hS
    cases ha : (advK F.length k pk).1 with
    | false =>
      rw [ha, if_neg (by decide)] at hQ
      exact ⟨fun _ => hQ S1 g1 hS1, fun h9 => absurd rfl h9⟩
    | true =>
      rw [ha, if_pos rfl] at hQ
      refine ⟨fun h9 => absurd h9 (by decide), fun _ => w_Tr_doesAll hok hk hm hn hS1 (g1.D hD) q1 (ht.H g1) (fun S2 g2 hS2 => b_Tr_countRivals_16 hS2 ?_)⟩
      have g2' : zH lO S S2 := g1.tr (g2.sub (zsub_of rfl))
      have l2 := (hJ.P j1).H (g1.D hD) g2
      have q2 := q1.H (g1.D hD) g2
      rw [nI_add, nI_add]
      have ed : (List.range' 0 ((n + 1) ^ m)).all (dsP F k (advK F.length k pk).2 cs m n) = dsA F k cs m n (advK F.length k pk).2 := rfl
      rw [ed]
      cases hc : dsA F k cs m n (advK F.length k pk).2 with
      | true =>
        rw [hc, if_pos rfl, ← Nat.add_assoc] at hQ
        exact ⟨fun h9 => absurd h9 (by decide), fun _ => w_Tr_cR5 hok hF h0 hk hm hn hmo f (t + 1) (r + 1) hS2 (g2'.D hD) l2 q2 (ht.H g2') (by omega) (fun S' g' => hQ S' (g2'.tr g'))⟩
      | false =>
        rw [hc, if_neg (by decide), Nat.zero_add] at hQ
        exact ⟨fun _ => w_Tr_cR5 hok hF h0 hk hm hn hmo f (t + 1) r hS2 (g2'.D hD) l2 q2 (ht.H g2') (by omega) (fun S' g' => hQ S' (g2'.tr g')), fun h9 => absurd rfl h9⟩
theorem w_Tr_seek {H x0 wd mv pr m n o2 most acts : Nat} {cs : List (List (Nat × Nat))} {S : ZSt} {Q : ZOut → ZSt → Prop} (hH : 1 ≤ H ∧ H ≤ 3) (hx : x0 ≤ 12) (eH : H = if x0 < 3 then x0 else 3) (hw : wd ≤ 3) (hmv : mv ≤ 1) (hpr : pr ≤ 1) (hm : 1 ≤ m ∧ m ≤ 3) (hn : n ≤ 9) (hmo : most ≤ 20000) (hac : acts ≤ 3) (hS : zSh S) (hD : zStD S) (ht : OT S o2 cs) (v0 : zI S 93 0 = nI x0) (v3 : zI S 93 3 = nI wd) (v4 : zI S 93 4 = nI pr) (v5 : zI S 93 5 = nI mv) (h1 : ∀ l q, (skL H wd mv pr cs m n most acts 1 0).1 = some (l, q) → ∀ S', zH lO S S' → zSh S' → jLO S' (letF H l wd mv pr) → jPO S' (letF H l wd mv pr) l q → zI S' 110 7 = nI (skL H wd mv pr cs m n most acts 1 0).2 → Q (.inl (some (.int (nI 1)))) S') (h2 : (skL H wd mv pr cs m n most acts 1 0).1 = none → ∀ S', zH lO S S' → zSh S' → zI S' 110 7 = nI (skL H wd mv pr cs m n most acts 1 0).2 → Q (.inl (some (.int (nI 0)))) S') : zC m_Tr_seek [.ref 110, .ref o2, .ref 93, .int (nI m), .int (nI n), .int (nI acts), .int (nI most)] S Q := by
  have j : zJ [110] S (zsI S 110 7 (nI 0)) := zJ.rf.I rfl
  have g : zH lO S (zsI S 110 7 (nI 0)) := j.hO rfl
  exact b_Tr_seek hS (w_Tr_sk5 hH hx eH hw hmv hpr hm hn hmo hac acts 1 (j.sh hS) (g.D hD) (ht.H g) v0 v3 v4 v5 zI_s (Nat.zero_le _) (by omega) (by omega) (fun l q h S' g' => h1 l q h S' (g.tr g')) (fun h S' g' => h2 h S' (g.tr g')))
theorem skL_at {H wd mv pr m n most acts : Nat} {cs : List (List (Nat × Nat))} : ∀ (f k t : Nat) {l : Nat} {q : Nat → Nat}, f + k = acts + 1 → 1 ≤ k → t ≤ most → (skL H wd mv pr cs m n most f k t).1 = some (l, q) → 1 ≤ l ∧ l ≤ acts
  | 0, k, t, l, q, _, _, _, h => by cases h
  | f + 1, k, t, l, q, hf, hk, ht, h => by
    unfold skL at h
    split at h
    · cases h
      omega
    · exact skL_at f (k + 1) _ (by omega) (by omega) (skI_le _ _ _ ht) h
theorem skL_le {H wd mv pr m n most : Nat} {cs : List (List (Nat × Nat))} : ∀ (f k t : Nat), t ≤ most → (skL H wd mv pr cs m n most f k t).2 ≤ most
  | 0, k, t, h => h
  | f + 1, k, t, h => by
    unfold skL
    split
    · exact skI_le _ _ _ h
    · exact skL_le f (k + 1) _ (skI_le _ _ _ h)
