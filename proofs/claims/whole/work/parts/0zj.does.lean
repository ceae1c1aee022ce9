/-! a way that is tried does all: the object's side -/
def lDo : List Nat := [111, 112, 113, 114]
theorem jPO.H {S S' : ZSt} {F : List Lt} {n : Nat} {pk : Nat → Nat} (hp : jPO S F n pk) (hD : zStD S) (h : zH lDo S S') : jPO S' F n pk := by
  unfold jPO rowV
  rw [h.at hD (c := 118) rfl, h.at hD (c := 119) rfl, h.at hD (c := 120) rfl, h.at hD (c := 121) rfl, h.at hD (c := 122) rfl]
  exact hp
theorem jLO.H {S S' : ZSt} {F : List Lt} (hp : jLO S F) (hD : zStD S) (h : zH lDo S S') : jLO S' F := by
  unfold jLO
  rw [h.at hD (c := 110) rfl, h.at hD (c := 115) rfl, h.at hD (c := 116) rfl, h.at hD (c := 117) rfl]
  exact hp
def dsP (F : List Lt) (k : Nat) (pk : Nat → Nat) (cs : List (List (Nat × Nat))) (m n : Nat) (i : Nat) : Bool := mt k (pK F pk) (pA F pk) (pB F pk) 60 cs (dgt (n + 1) m i)
theorem w_Tr_dA6 {F : List Lt} {k m n o2 : Nat} {pk : Nat → Nat} {cs : List (List (Nat × Nat))} {Q : ZOut → ZSt → Prop} (hok : ∀ x ∈ F, okL k x = true) (hk : 1 ≤ k ∧ k ≤ 3) (hm : 1 ≤ m ∧ m ≤ 3) (hn : n ≤ 9) : ∀ (f i : Nat) {S : ZSt}, zSh S → zStD S → jPO S F k pk → OT S o2 cs → f + i = (n + 1) ^ m → (∀ S', zH lDo S S' → zSh S' → Q (.inl (some (.int (zBo ((List.range' i f).all (dsP F k pk cs m n)))))) S') → zW 5 m_Tr_doesAll 6 [some (.ref 110), some (.ref o2), some (.int (nI m)), some (.int (nI n)), some (.int (nI ((n + 1) ^ m))), some (.int (nI i))] [] S Q
  | 0, i, S, hS, hD, hp, ht, hf, hQ => by
    have hb := pow_b (m := m) (n := n) (by omega) hn
    exact b_Tr_doesAll_6 hS ⟨fun _ => ⟨rfl, hQ S zH.rf hS⟩, fun h9 => absurd (nI_le (by omega) (by omega)) h9⟩
  | f + 1, i, S, hS, hD, hp, ht, hf, hQ => by
    have hb := pow_b (m := m) (n := n) (by omega) hn
    have hW := zWy_p hok hk (fun j hj => (hp.2 j hj).1)
    refine b_Tr_doesAll_6 hS ⟨fun h9 => absurd h9 (nI_ge (by omega) (by omega)), fun _ => w_Rv_startSmall (by omega) hn (by omega) hS (fun S1 j1 w1 r1 => b_Tr_doesAll_15 (j1.sh hS) ?_)⟩
    have hS1 := j1.sh hS
    refine w_Rv_follow (o := 119) (ra := 120) (rb := 121) (rc := 122) hW rfl rfl rfl rfl hS1 ((hp.J j1 rfl).W hS1) (lim := 60) (by omega) (by omega) r1 (fun S2 j2 r2 => ?_)
    have hS2 := j2.sh hS1
    have h2 : zH lDo S S2 := j1.h.tr (zJ3 j2 (zsub_of rfl)).h
    have w2 : jN (zI S2 112) 12 1000000000 (dgt (n + 1) m i) := by rw [j2.2 112 rfl]; exact w1
    obtain ⟨t1, ta, tb, rs, t0, ⟨ta1, tb1⟩, ⟨ts1, ts2⟩, t2⟩ := ht.H (h2.sub (zsub_of rfl))
    refine b_Tr_doesAll_21 hS2 ⟨t2.1, w_Tv_isMetBy (w := dgt (n + 1) m i) t1 (fun e => ta1.2 (by rw [← e]; exact ts1)) (fun e => tb1.2 (by rw [← e]; exact ts1)) (zmem_big (b := 162) rfl ts2) hS2 t2 w2 r2 (go_e _ _ _ _ _) (fun S3 j3 => b_Tr_doesAll_25 (j3.sh hS2) ?_)⟩
    have h3 : zH lDo S S3 := h2.tr (j3.hs ts1)
    have hS3 := j3.sh hS2
    have e : (List.range' i (f + 1)).all (dsP F k pk cs m n) = (dsP F k pk cs m n i && (List.range' (i + 1) f).all (dsP F k pk cs m n)) := rfl
    rw [e] at hQ
    rw [nI_add]
    have ed : dsP F k pk cs m n i = met (dgt (n + 1) m i) (go k (pK F pk) (pA F pk) (pB F pk) 60 (dgt (n + 1) m i) z0 0 0) cs := rfl
    rw [← ed]
    cases hc : dsP F k pk cs m n i with
    | true =>
      rw [hc, Bool.true_and] at hQ
      exact ⟨fun _ => w_Tr_dA6 hok hk hm hn f (i + 1) hS3 (h3.D hD) (hp.H hD h3) (ht.H (h3.sub (zsub_of rfl))) (by omega) (fun S' h' => hQ S' (h3.tr h')), fun h9 => absurd (by decide) h9⟩
    | false =>
      rw [hc, Bool.false_and] at hQ
      exact ⟨fun h9 => absurd rfl h9, fun _ => ⟨rfl, hQ S3 h3 hS3⟩⟩
theorem w_Tr_doesAll {F : List Lt} {k m n o2 : Nat} {pk : Nat → Nat} {cs : List (List (Nat × Nat))} {S : ZSt} {Q : ZOut → ZSt → Prop} (hok : ∀ x ∈ F, okL k x = true) (hk : 1 ≤ k ∧ k ≤ 3) (hm : 1 ≤ m ∧ m ≤ 3) (hn : n ≤ 9) (hS : zSh S) (hD : zStD S) (hp : jPO S F k pk) (ht : OT S o2 cs) (hQ : ∀ S', zH lDo S S' → zSh S' → Q (.inl (some (.int (zBo ((List.range' 0 ((n + 1) ^ m)).all (dsP F k pk cs m n)))))) S') : zC m_Tr_doesAll [.ref 110, .ref o2, .int (nI m), .int (nI n)] S Q :=
  b_Tr_doesAll hS (w_N_flocksWithin hm.2 hn hS (b_Tr_doesAll_3 hS (w_Tr_dA6 hok hk hm hn ((n + 1) ^ m) 0 hS hD hp ht (by omega) hQ)))
