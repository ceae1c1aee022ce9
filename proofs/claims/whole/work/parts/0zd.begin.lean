/-! the ways that are tried: how they begin, the object's side -/
def zJT (S S' : ZSt) : Prop := zJ [110, 115, 116, 117, 118, 119, 120, 121, 122] S S' ∧ ∀ j, j ≠ 4 → zI S' 110 j = zI S 110 j
theorem zJT.rf {S : ZSt} : zJT S S := ⟨zJ.rf, fun _ _ => rfl⟩
theorem zJT.tr {S S1 S2 : ZSt} (h1 : zJT S S1) (h2 : zJT S1 S2) : zJT S S2 := ⟨h1.1.tr h2.1, fun j a => (h2.2 j a).trans (h1.2 j a)⟩
theorem zJT.sh {S S1 : ZSt} (h : zJT S S1) (hS : zSh S) : zSh S1 := h.1.sh hS
theorem zJT.ofA {S S' : ZSt} (h : zJA S S') : zJT S S' := ⟨zJ3 h.1 (zsub_of rfl), h.2⟩
theorem zJT.ofP {S S' : ZSt} (h : zJ [118, 120, 121, 122] S S') : zJT S S' := ⟨zJ3 h (zsub_of rfl), fun j _ => by rw [h.2 110 rfl]⟩
theorem w_Tr_addPairs {H mv pr : Nat} {l : List Lt} {S : ZSt} {Q : ZOut → ZSt → Prop} (hS : zSh S) (hJ : jLO S l) (hH : 1 ≤ H ∧ H ≤ 3) (h5 : zI S 93 5 = nI mv) (h4 : zI S 93 4 = nI pr) (hm : mv ≤ 1) (hp : pr ≤ 1) (hl : l.length + (rPs H mv pr).length ≤ 36) (hQ : ∀ S', zJA S S' → jLO S' (l ++ rPs H mv pr) → Q (.inl none) S') : zC m_Tr_addPairs [.ref 110, .int (nI H), .ref 93] S Q := by
  unfold rPs at hl hQ
  rw [List.length_append] at hl
  have second : ∀ {S1 : ZSt} {u4 : Option Value}, zJA S S1 → jLO S1 (l ++ (if mv = 1 then rMv H H 0 else [])) → zW 2 m_Tr_addPairs 29 [some (.ref 110), some (.int (nI H)), some (.ref 93), some (.int (nI 0)), u4] [] S1 Q := fun {S1 u4} j1 l1 => by
    have hv : zI S1 93 4 = nI pr := by rw [j1.1.2 93 rfl]; exact h4
    by_cases e : pr = 1
    · rw [if_pos e] at hl hQ
      rw [e] at hv
      exact w_Tr_pr hH.2 H 0 (j1.sh hS) l1 hv (by omega) (by rw [List.length_append]; omega) (fun S' j' l' => hQ S' (j1.tr j') (by rw [List.append_assoc] at l'; exact l'))
    · rw [if_neg e, List.append_nil] at hQ
      exact b_Tr_addPairs_29 (j1.sh hS) ⟨fun h9 => absurd h9 (nI_ge (by omega) (by omega)), fun _ => ⟨zinl rfl, fun _ => hQ S1 j1 l1, fun h9 => absurd (fun h8 => e (nEq (by omega) (by omega) (hv.symm.trans h8))) h9⟩⟩
  refine b_Tr_addPairs hS ?_
  by_cases e : mv = 1
  · rw [if_pos e] at hl second
    rw [e] at h5
    exact w_Tr_mv hH.2 H 0 hS hJ h5 (by omega) (by omega) (fun S' j' l' u4 => second j' l')
  · rw [if_neg e, List.append_nil] at second
    exact b_Tr_addPairs_2 hS ⟨fun h9 => absurd h9 (nI_ge (by omega) (by omega)), fun _ => ⟨zinl rfl, fun _ => second zJA.rf hJ, fun h9 => absurd (fun h8 => e (nEq (by omega) (by omega) (h5.symm.trans h8))) h9⟩⟩
theorem w_Tr_addJumps {H n : Nat} {l : List Lt} {S : ZSt} {Q : ZOut → ZSt → Prop} (hS : zSh S) (hJ : jLO S l) (hH : H ≤ 3) (hn : n ≤ 3) (hl : l.length + ((rEm n H 0).length + (rGo (n + 1) 0).length) ≤ 36) (hQ : ∀ S', zJA S S' → jLO S' (l ++ (rEm n H 0 ++ rGo (n + 1) 0)) → Q (.inl none) S') : zC m_Tr_addJumps [.ref 110, .int (nI H), .int (nI n)] S Q :=
  b_Tr_addJumps hS (w_Tr_em hn hH H 0 hS hJ (by omega) (by omega) (fun S1 j1 l1 u4 => w_Tr_go hn (n + 1) 0 (j1.sh hS) l1 (by omega) (by rw [List.length_append]; omega) (fun S' j' l' => hQ S' (j1.tr j') (by rw [List.append_assoc] at l'; exact l'))))
/-- a pick and what stands of it in the way -/
def rowV (S : ZSt) (F : List Lt) (j v : Nat) : Prop := v < F.length ∧ zI S 118 j = nI v ∧ zI S 120 j = nI (F.getD v (11, 0, 0)).1 ∧ zI S 121 j = eA (F.getD v (11, 0, 0)).1 (F.getD v (11, 0, 0)).2.1 ∧ zI S 122 j = eB (F.getD v (11, 0, 0)).1 (F.getD v (11, 0, 0)).2.2
def jPO (S : ZSt) (F : List Lt) (n : Nat) (pk : Nat → Nat) : Prop := zI S 119 3 = nI n ∧ ∀ k, k < n → rowV S F k (pk k)
theorem w_Tr_pick {F : List Lt} {k v : Nat} {S : ZSt} {Q : ZOut → ZSt → Prop} (hS : zSh S) (hF : F.length ≤ 36) (hJ : jLO S F) (hk : k < 3) (hv : v < F.length) (hQ : ∀ S', zJ [118, 120, 121, 122] S S' → (∀ j u, j ≠ k → rowV S F j u → rowV S' F j u) → rowV S' F k v → Q (.inl none) S') : zC m_Tr_pick [.ref 110, .int (nI k), .int (nI v)] S Q := by
  have hx : F[v]? = some (F.getD v (11, 0, 0)) := by
    rw [List.getD_eq_getElem?_getD, List.getElem?_eq_getElem hv]
    rfl
  obtain ⟨x1, x2, x3⟩ := hJ.2 v _ hx
  refine b_Tr_pick hS (w_N_isNot0 hS (nI_nlt (by omega) (by omega)) (nI_le (by omega) (by omega)) (b_Tr_pick_4 hS ⟨fun h9 => absurd (by decide) h9, fun _ => w_N_isNot0 hS (nI_nlt (by omega) (by omega)) (nI_le (by omega) (by omega)) (b_Tr_pick_9 hS ⟨fun h9 => absurd (by decide) h9, fun _ => ⟨zin (by omega) (by omega), zin (by omega) (by omega), zin (by omega) (by omega), zin (by omega) (by omega), ?_⟩⟩)⟩))
  rw [zcl9 (by omega), zcl9 (by omega), x1, x2, x3]
  have hS1 : zSh (zsI S 118 k (nI v)) := hS
  refine b_Wc_change hS1 (w_N_isNot0 hS1 (nI_nlt (by omega) (by omega)) (nI_le (by omega) (by omega)) (b_Wc_change_4 hS1 ⟨fun h9 => absurd (by decide) h9, fun _ => ⟨zin (by omega) (by omega), zin (by omega) (by omega), zin (by omega) (by omega), b_Tr_pick_31 hS ?_⟩⟩))
  rw [zcl9 (by omega)]
  refine hQ _ ((((zJ.rf.I rfl).I rfl).I rfl).I rfl) (fun j u hj hr => ?_) ⟨hv, ?_, ?_, ?_, ?_⟩
  · obtain ⟨r1, r2, r3, r4, r5⟩ := hr
    refine ⟨r1, ?_, ?_, ?_, ?_⟩
    · rw [zI_ne _ _ (by omega), zI_ne _ _ (by omega), zI_ne _ _ (by omega), zI_o hj]
      exact r2
    · rw [zI_ne _ _ (by omega), zI_ne _ _ (by omega), zI_o hj, zI_ne _ _ (by omega)]
      exact r3
    · rw [zI_ne _ _ (by omega), zI_o hj, zI_ne _ _ (by omega), zI_ne _ _ (by omega)]
      exact r4
    · rw [zI_o hj, zI_ne _ _ (by omega), zI_ne _ _ (by omega), zI_ne _ _ (by omega)]
      exact r5
  · rw [zI_ne _ _ (by omega), zI_ne _ _ (by omega), zI_ne _ _ (by omega), zI_s]
  · rw [zI_ne _ _ (by omega), zI_ne _ _ (by omega), zI_s]
  · rw [zI_ne _ _ (by omega), zI_s]
  · rw [zI_s]
theorem jLO.P {S S' : ZSt} {F : List Lt} (h : jLO S F) (j : zJ [118, 120, 121, 122] S S') : jLO S' F := by
  unfold jLO
  rw [j.2 110 rfl, j.2 115 rfl, j.2 116 rfl, j.2 117 rfl]
  exact h
theorem w_Tr_b44 {F : List Lt} {n : Nat} {x2 : Int32} {Q : ZOut → ZSt → Prop} (hF : F.length ≤ 36) (h0 : 0 < F.length) (hn : n ≤ 3) : ∀ (f i : Nat) {S : ZSt}, zSh S → jLO S F → zI S 119 3 = nI n → f + i = n → (∀ k, k < i → rowV S F k 0) → (∀ S', zJ [118, 120, 121, 122] S S' → jPO S' F n (fun _ => 0) → Q (.inl none) S') → zW 4 m_Tr_begin 44 [some (.ref 110), some (.int (nI n)), some (.int x2), some (.ref 93), some (.int (nI i))] [] S Q
  | 0, i, S, hS, hJ, h3, hi, hr, hQ => by
    refine b_Tr_begin_44 hS ?_
    rw [h3]
    exact ⟨fun _ => hQ S zJ.rf ⟨h3, fun k hk => hr k (by omega)⟩, fun h9 => absurd (nI_le (show n ≤ i by omega) (by omega)) h9⟩
  | f + 1, i, S, hS, hJ, h3, hi, hr, hQ => by
    refine b_Tr_begin_44 hS ?_
    rw [h3]
    refine ⟨fun h9 => absurd h9 (nI_ge (by omega) (by omega)), fun _ => w_Tr_pick hS hF hJ (by omega) h0 (fun S1 j1 r1 r2 => b_Tr_begin_53 (j1.sh hS) ?_)⟩
    rw [nI_add]
    refine w_Tr_b44 hF h0 hn f (i + 1) (j1.sh hS) (hJ.P j1) (by rw [j1.2 119 rfl]; exact h3) (by omega) (fun k hk => ?_) (fun S' j' => hQ S' (j1.tr j'))
    by_cases e : k = i
    · rw [e]
      exact r2
    · exact r1 k 0 e (hr k (by omega))
theorem w_Tr_begin {H n wd mv pr : Nat} {S : ZSt} {Q : ZOut → ZSt → Prop} (hS : zSh S) (hH : 1 ≤ H ∧ H ≤ 3) (hn : 1 ≤ n ∧ n ≤ 3) (hw : wd ≤ 3) (hm : mv ≤ 1) (hp : pr ≤ 1) (h3 : zI S 93 3 = nI wd) (h4 : zI S 93 4 = nI pr) (h5 : zI S 93 5 = nI mv) (hQ : ∀ S', zJT S S' → jLO S' (letF H n wd mv pr) → jPO S' (letF H n wd mv pr) n (fun _ => 0) → Q (.inl none) S') : zC m_Tr_begin [.ref 110, .int (nI n), .int (nI H), .ref 93] S Q := by
  obtain ⟨-, hL⟩ := chkL_at hH hn hw hm hp
  have hL' : (rChg H 0).length + ((rPs H mv pr).length + ((rEm n H 0).length + ((rGo (n + 1) 0).length + ((rSay (wd + 1) 0).length + 1)))) ≤ 36 := by
    unfold letF at hL
    simp only [List.length_append, List.length_cons, List.length_nil] at hL
    omega
  have hpos : 0 < (letF H n wd mv pr).length := by
    unfold letF
    simp only [List.length_append, List.length_cons, List.length_nil]
    omega
  have j0 : zJA S (zsI S 110 4 (nI 0)) := ⟨zJ.rf.I rfl, fun j hj => zI_o hj⟩
  have l0 : jLO (zsI S 110 4 (nI 0)) [] := ⟨zI_s, fun i x hx => by rw [List.getElem?_nil] at hx; cases hx⟩
  have jumps : ∀ {S1 : ZSt}, zJA S S1 → jLO S1 (rChg H 0 ++ rPs H mv pr) → zcl 4 m_Tr_begin m_Tr_addJumps 24 16 [some (.ref 110), some (.int (nI n)), some (.int (nI H)), some (.ref 93), none] [] [.ref 110, .int (nI H), .int (nI n)] S1 Q := fun {S1} j1 l1 => by
    refine w_Tr_addJumps (j1.sh hS) l1 hH.2 hn.2 (by rw [List.length_append]; omega) (fun S2 j2 l2 => b_Tr_begin_17 (j2.sh (j1.sh hS)) ?_)
    have j12 := j1.tr j2
    have e93 : ∀ {T : ZSt}, zJA S T → zI T 93 3 = nI wd := fun {T} j => by rw [j.1.2 93 rfl]; exact h3
    refine w_Tr_say hw (wd + 1) 0 (j12.sh hS) l2 (e93 j12) (by omega) (by simp only [List.length_append]; omega) (fun S3 j3 l3 x => ?_)
    have j13 := j12.tr j3
    refine w_Tr_add (k := 11) (a := 0) (b := 0) eA_11 (eB_no (by omega)) (j13.sh hS) l3 (by simp only [List.length_append]; omega) (fun S4 j4 l4 => b_Tr_begin_36 (j4.sh (j13.sh hS)) ?_)
    have j14 := j13.tr j4
    rw [if_neg (nI_nlt (by omega) (by omega))]
    have l5 : jLO (zsI S4 119 3 (nI n)) (letF H n wd mv pr) := by
      have e : jLO (zsI S4 119 3 (nI n)) = jLO S4 := by
        unfold jLO
        rw [zI_ne _ _ (by omega), zI_ne _ _ (by omega), zI_ne _ _ (by omega), zI_ne _ _ (by omega)]
      rw [e]
      unfold letF
      simp only [List.append_assoc] at l4
      exact l4
    have j5 : zJT S4 (zsI S4 119 3 (nI n)) := ⟨zJ.rf.I rfl, fun j _ => by rw [zI_ne _ _ (by omega)]⟩
    exact w_Tr_b44 hL hpos hn.2 n 0 (j5.sh (j14.sh hS)) l5 zI_s (by omega) (fun k hk => by omega) (fun S' j' p' => hQ S' (((zJT.ofA j14).tr j5).tr (zJT.ofP j')) (l5.P j') p')
  refine b_Tr_begin hS (b_Tr_addChanges (j0.sh hS) (w_Tr_chg hH.2 H 0 (j0.sh hS) l0 (by omega) (by rw [List.length_nil]; omega) (fun S1 j1 l1 => b_Tr_begin_6 (j1.sh (j0.sh hS)) ?_)))
  rw [List.nil_append] at l1
  have j01 := j0.tr j1
  refine ⟨fun h9 => ?_, fun h9 => w_Tr_addPairs (j01.sh hS) l1 hH (by rw [j01.1.2 93 rfl]; exact h5) (by rw [j01.1.2 93 rfl]; exact h4) hm hp (by omega) (fun S2 j2 l2 => b_Tr_begin_13 (j2.sh (j01.sh hS)) (jumps (j01.tr j2) l2))⟩
  have e : H = 1 := by
    have : ¬ 1 < H := fun h8 => nI_ge h8 (by omega) h9
    omega
  refine jumps j01 ?_
  have e2 : rPs H mv pr = [] := by
    rw [e]
    unfold rPs
    by_cases a : mv = 1
    · rw [if_pos a]
      by_cases b : pr = 1
      · rw [if_pos b]
        rfl
      · rw [if_neg b]
        rfl
    · rw [if_neg a]
      by_cases b : pr = 1
      · rw [if_pos b]
        rfl
      · rw [if_neg b]
        rfl
  rw [e2, List.append_nil]
  exact l1
theorem w_Tr_adv8 {F : List Lt} {n : Nat} {Q : ZOut → ZSt → Prop} (hF : F.length ≤ 36) (h0 : 0 < F.length) (hn : n ≤ 3) : ∀ (k : Nat) {S : ZSt} {pk : Nat → Nat}, zSh S → jLO S F → k ≤ n → jPO S F n pk → (∀ S', zJ [118, 120, 121, 122] S S' → jPO S' F n (advK F.length k pk).2 → Q (.inl (some (.int (zBo (advK F.length k pk).1)))) S') → zW 4 m_Tr_advance 8 [some (.ref 110), some (.int (nI k - nI 1))] [] S Q
  | 0, S, pk, hS, hJ, hk, hp, hQ => b_Tr_advance_8 hS ⟨fun _ => ⟨rfl, hQ S zJ.rf hp⟩, fun h9 => absurd (by decide) h9⟩
  | k + 1, S, pk, hS, hJ, hk, hp, hQ => by
    have hr := hp.2 k (by omega)
    rw [zsub1 (by omega), show k + 1 - 1 = k by omega]
    refine b_Tr_advance_8 hS ⟨fun h9 => absurd h9 (nI_pos (by omega)), fun _ => ⟨zin (by omega) (by omega), ?_⟩⟩
    rw [zcl9 (by omega), hr.2.1, hJ.1, nI_add]
    have hupn : ∀ {S' : ZSt} {v : Nat}, zJ [118, 120, 121, 122] S S' → (∀ j u, j ≠ k → rowV S F j u → rowV S' F j u) → rowV S' F k v → jPO S' F n (upn pk k v) := fun {S' v} j1 r1 r2 => ⟨by rw [j1.2 119 rfl]; exact hp.1, fun j hj => by
      by_cases e : j = k
      · rw [e, upn_self]
        exact r2
      · rw [show upn pk k v j = pk j from if_neg e]
        exact r1 j _ e (hp.2 j hj)⟩
    have eA1 : advK F.length (k + 1) pk = if pk k + 1 < F.length then (true, upn pk k (pk k + 1)) else advK F.length k (upn pk k 0) := rfl
    rw [eA1] at hQ
    refine ⟨fun h9 => ?_, fun h9 => ⟨zin (by omega) (by omega), ?_⟩⟩
    · have e : ¬ pk k + 1 < F.length := fun h8 => nI_ge h8 (by omega) h9
      rw [if_neg e] at hQ
      refine w_Tr_pick hS hF hJ (by omega) h0 (fun S1 j1 r1 r2 => b_Tr_advance_34 (j1.sh hS) ?_)
      rw [← Int32.sub_eq_add_neg]
      exact w_Tr_adv8 hF h0 hn k (j1.sh hS) (hJ.P j1) (by omega) (hupn j1 r1 r2) (fun S' j' => hQ S' (j1.tr j'))
    · have hr1 := hr.1
      have e : pk k + 1 < F.length := Nat.not_le.mp (fun h8 => h9 (nI_le h8 (by omega)))
      rw [if_pos e] at hQ
      exact w_Tr_pick hS hF hJ (by omega) e (fun S1 j1 r1 r2 => b_Tr_advance_28 (j1.sh hS) ⟨rfl, hQ S1 j1 (hupn j1 r1 r2)⟩)
theorem w_Tr_advance {F : List Lt} {n : Nat} {S : ZSt} {pk : Nat → Nat} {Q : ZOut → ZSt → Prop} (hF : F.length ≤ 36) (h0 : 0 < F.length) (hn : n ≤ 3) (hS : zSh S) (hJ : jLO S F) (hp : jPO S F n pk) (hQ : ∀ S', zJ [118, 120, 121, 122] S S' → jPO S' F n (advK F.length n pk).2 → Q (.inl (some (.int (zBo (advK F.length n pk).1)))) S') : zC m_Tr_advance [.ref 110] S Q := by
  refine b_Tr_advance hS ?_
  rw [hp.1, if_neg (nI_nlt (by omega) (by omega))]
  exact w_Tr_adv8 hF h0 hn n hS hJ (Nat.le_refl _) hp hQ
theorem w_Tr_wol {F : List Lt} {n : Nat} {S : ZSt} {Q : ZOut → ZSt → Prop} (hF : F.length ≤ 36) (hn : n ≤ 3) (hS : zSh S) (hJ : jLO S F) (h3 : zI S 119 3 = nI n) (hQ : Q (.inl (some (.int (nI (F.length ^ n))))) S) : zC m_Tr_waysOfLength [.ref 110] S Q := by
  have main : ∀ (f k : Nat), f + k = n → zW 1 m_Tr_waysOfLength 4 [some (.ref 110), some (.int (nI (F.length ^ k))), some (.int (nI k))] [] S Q := by
    intro f
    induction f with
    | zero =>
      intro k hk
      obtain rfl : k = n := by omega
      refine b_Tr_waysOfLength_4 hS ?_
      rw [h3]
      exact ⟨fun _ => hQ, fun h9 => absurd (nI_le (Nat.le_refl _) (by omega)) h9⟩
    | succ f ih =>
      intro k hk
      refine b_Tr_waysOfLength_4 hS ?_
      rw [h3, hJ.1, pk_mul, ← Nat.pow_succ, nI_add]
      exact ⟨fun h9 => absurd h9 (nI_ge (by omega) (by omega)), fun _ => ⟨fun h9 => absurd h9 (nI_ge (by omega) (by omega)), fun _ => ih (k + 1) (by omega)⟩⟩
  exact b_Tr_waysOfLength hS (main n 0 (by omega))
