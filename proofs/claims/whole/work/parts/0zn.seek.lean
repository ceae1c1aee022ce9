/-! ways are sought: the object's side, one length -/
def skI (D : (Nat → Nat) → Bool) (N n most : Nat) : Nat → (Nat → Nat) → Nat → Option (Nat → Nat) × Nat
  | 0, _, t => (none, t)
  | f + 1, pk, t => if t < most then (if D pk = true then (some pk, t + 1) else skI D N n most f (advK N n pk).2 (t + 1)) else (none, t)
def dsA (F : List Lt) (k : Nat) (cs : List (List (Nat × Nat))) (m n : Nat) (pk : Nat → Nat) : Bool := (List.range' 0 ((n + 1) ^ m)).all (dsP F k pk cs m n)
theorem w_Tr_sk25 {F : List Lt} {k m n o2 most : Nat} {cs : List (List (Nat × Nat))} {x5 : Int32} {Q : ZOut → ZSt → Prop} (hok : ∀ x ∈ F, okL k x = true) (hF : F.length ≤ 36) (h0 : 0 < F.length) (hk : 1 ≤ k ∧ k ≤ 3) (hm : 1 ≤ m ∧ m ≤ 3) (hn : n ≤ 9) (hmo : most ≤ 20000) (hN : F.length ^ k < 2 ^ 31) : ∀ (f i : Nat) {S : ZSt} {pk pk0 : Nat → Nat} {t : Nat}, zSh S → zStD S → jLO S F → jPO S F k pk0 → OT S o2 cs → zI S 110 7 = nI t → t ≤ most → f + i = F.length ^ k → (i = 0 → pk = pk0) → (0 < i → pk = (advK F.length k pk0).2) → (∀ q, (skI (dsA F k cs m n) F.length k most f pk t).1 = some q → ∀ S', zH lO S S' → zSh S' → jLO S' F → jPO S' F k q → zI S' 110 7 = nI (skI (dsA F k cs m n) F.length k most f pk t).2 → Q (.inl (some (.int (nI 1)))) S') → ((skI (dsA F k cs m n) F.length k most f pk t).1 = none → ∀ S' u8 u9, zH lO S S' → zSh S' → zI S' 110 7 = nI (skI (dsA F k cs m n) F.length k most f pk t).2 → zW 6 m_Tr_seek 5 [some (.ref 110), some (.ref o2), some (.ref 93), some (.int (nI m)), some (.int (nI n)), some (.int x5), some (.int (nI most)), some (.int (nI (k + 1))), u8, u9] [] S' Q) → zW 6 m_Tr_seek 25 [some (.ref 110), some (.ref o2), some (.ref 93), some (.int (nI m)), some (.int (nI n)), some (.int x5), some (.int (nI most)), some (.int (nI k)), some (.int (nI (F.length ^ k))), some (.int (nI i))] [] S Q
  | 0, i, S, pk, pk0, t, hS, hD, hJ, hp, ht, e7, htm, hf, p0, p1, h1, h2 => by
    refine b_Tr_seek_25 hS ⟨fun _ => ?_, fun h9 => absurd (nI_le (show F.length ^ k ≤ i by omega) (by omega)) h9⟩
    rw [nI_add]
    exact h2 rfl S _ _ zH.rf hS e7
  | f + 1, i, S, pk, pk0, t, hS, hD, hJ, hp, ht, e7, htm, hf, p0, p1, h1, h2 => by
    have eI : skI (dsA F k cs m n) F.length k most (f + 1) pk t = if t < most then (if dsA F k cs m n pk = true then (some pk, t + 1) else skI (dsA F k cs m n) F.length k most f (advK F.length k pk).2 (t + 1)) else (none, t) := rfl
    refine b_Tr_seek_25 hS ⟨fun h9 => absurd h9 (nI_ge (by omega) (by omega)), fun _ => ?_⟩
    rw [e7, nI_add, nI_add]
    by_cases htl : t < most
    case neg =>
      rw [eI, if_neg htl] at h2
      exact ⟨fun _ => h2 rfl S _ _ zH.rf hS e7, fun h9 => absurd (nI_le (show most ≤ t by omega) (by omega)) h9⟩
    rw [eI, if_pos htl] at h1 h2
    have core : ∀ {S1 : ZSt}, zH lO S S1 → zSh S1 → jLO S1 F → jPO S1 F k pk → zI S1 110 7 = nI t → zcl 6 m_Tr_seek m_Tr_doesAll 85 47 [some (.ref 110), some (.ref o2), some (.ref 93), some (.int (nI m)), some (.int (nI n)), some (.int x5), some (.int (nI most)), some (.int (nI k)), some (.int (nI (F.length ^ k))), some (.int (nI i))] [] [.ref 110, .ref o2, .int (nI m), .int (nI n)] (zsI S1 110 7 (nI (t + 1))) Q := fun {S1} g1 hS1 l1 q1 s1 => by
      have j2 : zJ [110] S1 (zsI S1 110 7 (nI (t + 1))) := zJ.rf.I rfl
      have g2 : zH lO S (zsI S1 110 7 (nI (t + 1))) := g1.tr (j2.hO rfl)
      have l2 : jLO (zsI S1 110 7 (nI (t + 1))) F := ⟨by rw [zI_o (by omega)]; exact l1.1, by rw [j2.2 115 rfl, j2.2 116 rfl, j2.2 117 rfl]; exact l1.2⟩
      have q2 : jPO (zsI S1 110 7 (nI (t + 1))) F k pk := q1.J j2 rfl
      refine w_Tr_doesAll hok hk hm hn (j2.sh hS1) (g2.D hD) q2 (ht.H g2) (fun S3 g3 hS3 => b_Tr_seek_48 hS3 ?_)
      have g3' : zH lO S S3 := g2.tr (g3.sub (zsub_of rfl))
      have s3 : zI S3 110 7 = nI (t + 1) := by rw [g3.at (g2.D hD) (c := 110) rfl]; exact zI_s
      have l3 := l2.H (g2.D hD) g3
      have q3 := q2.H (g2.D hD) g3
      rw [nI_add]
      have ed : (List.range' 0 ((n + 1) ^ m)).all (dsP F k pk cs m n) = dsA F k cs m n pk := rfl
      rw [ed]
      cases hc : dsA F k cs m n pk with
      | true =>
        rw [hc, if_pos rfl] at h1
        exact ⟨fun h9 => absurd h9 (by decide), fun _ => ⟨rfl, h1 pk rfl S3 g3' hS3 l3 q3 s3⟩⟩
      | false =>
        rw [hc, if_neg (by decide)] at h1 h2
        exact ⟨fun _ => w_Tr_sk25 hok hF h0 hk hm hn hmo hN f (i + 1) (pk0 := pk) hS3 (g3'.D hD) l3 q3 (ht.H g3') s3 (by omega) (by omega) (fun h9 => by omega) (fun _ => rfl) (fun q h S' g' => h1 q h S' (g3'.tr g')) (fun h S' u8 u9 g' => h2 h S' u8 u9 (g3'.tr g')), fun h9 => absurd rfl h9⟩
    refine ⟨fun h9 => absurd h9 (nI_ge htl (by omega)), fun _ => ⟨fun h9 => ?_, fun h9 => ?_⟩⟩
    · have ei : i = 0 := Nat.eq_zero_of_not_pos (fun h8 => nI_ge (a := 0) h8 (by omega) h9)
      rw [p0 ei] at core
      exact core zH.rf hS hJ hp e7
    · have ei : 0 < i := Nat.pos_of_ne_zero (fun e => h9 (by rw [e]; decide))
      refine w_Tr_advance hF h0 hk.2 hS hJ hp (fun S1 j1 q1 => b_Tr_seek_36 (j1.sh hS) ?_)
      rw [← p1 ei] at q1
      have s1 : zI S1 110 7 = nI t := by rw [j1.2 110 rfl]; exact e7
      rw [s1, nI_add]
      exact core (j1.hO rfl) (j1.sh hS) (hJ.P j1) q1 s1
