/-! numbers told apart: the object's side -/
theorem go_said {n : Nat} {kd fa fb : Nat → Nat} (hW : zWy n kd fa fb) : ∀ (f : Nat) (h p : Nat → Nat) (t m : Nat), t < n → (go n kd fa fb f h p t m).2.2.2.2.2 ≤ 9
  | 0, h, p, t, m, ht => Nat.le_refl 9
  | f + 1, h, p, t, m, ht => by
    unfold go
    split
    · exact Nat.le_refl 9
    · split
      · rename_i e
        have := (hW.2.2 t ht).2.2.2.2.1 e
        show fa t ≤ 9
        omega
      · split
        · exact Nat.le_refl 9
        · split
          · exact Nat.le_refl 9
          · exact go_said hW f _ _ _ _ (by omega)
def enP (F : List Lt) (n : Nat) (pk : Nat → Nat) (a : Nat) : Nat × Nat := ((go n (pK F pk) (pA F pk) (pB F pk) 60 (dgt 10 1 a) z0 0 0).2.2.2.2.1, (go n (pK F pk) (pA F pk) (pB F pk) 60 (dgt 10 1 a) z0 0 0).2.2.2.2.2)
def tstA (F : List Lt) (n a b : Nat) (pk : Nat → Nat) : Bool := !(Nat.beq (enP F n pk a).1 (enP F n pk b).1 && Nat.beq (enP F n pk a).2 (enP F n pk b).2)
def apI (F : List Lt) (n a b : Nat) : Nat → (Nat → Nat) → Bool
  | 0, _ => false
  | f + 1, pk => if tstA F n a b pk = true then true else apI F n a b f (advK F.length n pk).2
def apLen (wd mv pr a b : Nat) : Nat → Nat → Bool
  | 0, _ => false
  | f + 1, n => if apI (letF 1 n wd mv pr) n a b ((letF 1 n wd mv pr).length ^ n) (fun _ => 0) = true then true else apLen wd mv pr a b f (n + 1)
theorem jPO.W {S : ZSt} {F : List Lt} {n : Nat} {pk : Nat → Nat} (hS : zSh S) (hp : jPO S F n pk) : jWO S 119 120 121 122 n (pK F pk) (pA F pk) (pB F pk) := ⟨hS.1 119 (by omega), hp.1, ⟨hS.2.2.1 119 0 120 rfl, hS.2.2.1 119 1 121 rfl, hS.2.2.1 119 2 122 rfl⟩, ⟨zA_of hS rfl, zA_of hS rfl, zA_of hS rfl⟩, fun k hk => (hp.2 k hk).2.2⟩
theorem jPO.J {l : List Nat} {S S' : ZSt} {F : List Lt} {n : Nat} {pk : Nat → Nat} (hp : jPO S F n pk) (j : zJ l S S') (hl : (zmem 118 l || (zmem 119 l || (zmem 120 l || (zmem 121 l || zmem 122 l)))) = false) : jPO S' F n pk := by
  obtain ⟨a, b⟩ := Bool.or_eq_false_iff.mp hl
  obtain ⟨b, c⟩ := Bool.or_eq_false_iff.mp b
  obtain ⟨c, d⟩ := Bool.or_eq_false_iff.mp c
  obtain ⟨d, e⟩ := Bool.or_eq_false_iff.mp d
  unfold jPO rowV
  rw [j.2 118 a, j.2 119 b, j.2 120 c, j.2 121 d, j.2 122 e]
  exact hp
theorem w_Tr_endOf {F : List Lt} {n a : Nat} {pk : Nat → Nat} {S : ZSt} {Q : ZOut → ZSt → Prop} (hok : ∀ x ∈ F, okL n x = true) (hn : 1 ≤ n ∧ n ≤ 3) (ha : a ≤ 9) (hS : zSh S) (hp : jPO S F n pk) (hQ : ∀ S', zJ [111, 112, 113, 114] S S' → Q (.inl (some (.int (nI (10 * (enP F n pk a).1 + (enP F n pk a).2))))) S') : zC m_Tr_endOf [.ref 110, .int (nI a)] S Q := by
  have hW := zWy_p hok hn (fun k hk => (hp.2 k hk).1)
  refine b_Tr_endOf hS (w_Rv_startSmall (m := 1) (n := 9) (by omega) (by omega) (by omega) hS (fun S1 j1 _ r1 => b_Tr_endOf_6 (j1.sh hS) ?_))
  refine w_Rv_follow (o := 119) (ra := 120) (rb := 121) (rc := 122) hW rfl rfl rfl rfl (j1.sh hS) ((hp.J j1 rfl).W (j1.sh hS)) (lim := 60) (by omega) (by omega) r1 (fun S2 j2 r2 => b_Tr_endOf_12 (j2.sh (j1.sh hS)) ?_)
  rw [r2.2.2.2.2.1, r2.2.2.2.2.2, pk_mul, nI_add]
  exact hQ S2 (j1.tr (zJ3 j2 (zsub_of rfl)))
def lTr : List Nat := [110, 111, 112, 113, 114, 115, 116, 117, 118, 119, 120, 121, 122]
theorem go_end {n : Nat} {kd fa fb : Nat → Nat} {f : Nat} {h p : Nat → Nat} : (go n kd fa fb f h p 0 0).2.2.2.2.1 ≤ 3 := go_e _ _ _ _ _
theorem tstA_eq {F : List Lt} {n a b : Nat} {pk : Nat → Nat} (hW : zWy n (pK F pk) (pA F pk) (pB F pk)) : (nI (10 * (enP F n pk a).1 + (enP F n pk a).2) = nI (10 * (enP F n pk b).1 + (enP F n pk b).2) → tstA F n a b pk = false) ∧ (¬ nI (10 * (enP F n pk a).1 + (enP F n pk a).2) = nI (10 * (enP F n pk b).1 + (enP F n pk b).2) → tstA F n a b pk = true) := by
  have s1 : (enP F n pk a).2 ≤ 9 := go_said hW 60 _ _ 0 0 hW.1
  have s2 : (enP F n pk b).2 ≤ 9 := go_said hW 60 _ _ 0 0 hW.1
  have e1 : (enP F n pk a).1 ≤ 3 := go_end
  have e2 : (enP F n pk b).1 ≤ 3 := go_end
  unfold tstA
  generalize enP F n pk a = x at *
  generalize enP F n pk b = y at *
  refine ⟨fun h => ?_, fun h => ?_⟩
  · have h9 := nEq (by omega) (by omega) h
    have t1 : x.1 = y.1 := by omega
    have t2 : x.2 = y.2 := by omega
    rw [t1, t2, Nat.beq_refl, Nat.beq_refl]
    rfl
  · by_cases e : x.1 = y.1
    · have e' : ¬ x.2 = y.2 := fun e' => h (by rw [e, e'])
      have hb : Nat.beq x.2 y.2 = false := by
        cases hb : Nat.beq x.2 y.2 with
        | false => rfl
        | true => exact absurd (Nat.eq_of_beq_eq_true hb) e'
      rw [hb, Bool.and_false]
      rfl
    · have hb : Nat.beq x.1 y.1 = false := by
        cases hb : Nat.beq x.1 y.1 with
        | false => rfl
        | true => exact absurd (Nat.eq_of_beq_eq_true hb) e
      rw [hb, Bool.false_and]
      rfl
theorem w_Tr_tA18 {F : List Lt} {n a b : Nat} {x1 : Int32} {Q : ZOut → ZSt → Prop} (hok : ∀ x ∈ F, okL n x = true) (hF : F.length ≤ 36) (h0 : 0 < F.length) (hn : 1 ≤ n ∧ n ≤ 3) (ha : a ≤ 9) (hb : b ≤ 9) (hN : F.length ^ n < 2 ^ 31) : ∀ (f i : Nat) {S : ZSt} {pk : Nat → Nat}, zSh S → jLO S F → jPO S F n pk → f + i = F.length ^ n → (apI F n a b f pk = true → ∀ S', zJ lTr S S' → Q (.inl (some (.int (nI 1)))) S') → (apI F n a b f pk = false → ∀ S' u6 u7, zJ lTr S S' → zW 6 m_Tr_tellApart 2 [some (.ref 110), some (.int x1), some (.int (nI a)), some (.int (nI b)), some (.ref 93), some (.int (nI (n + 1))), u6, u7] [] S' Q) → zW 6 m_Tr_tellApart 18 [some (.ref 110), some (.int x1), some (.int (nI a)), some (.int (nI b)), some (.ref 93), some (.int (nI n)), some (.int (nI (F.length ^ n))), some (.int (nI i))] [] S Q
  | 0, i, S, pk, hS, hJ, hp, hi, h1, h2 => by
    refine b_Tr_tellApart_18 hS ⟨fun _ => ?_, fun h9 => absurd (nI_le (show F.length ^ n ≤ i by omega) (by omega)) h9⟩
    rw [nI_add]
    exact h2 rfl S _ _ zJ.rf
  | f + 1, i, S, pk, hS, hJ, hp, hi, h1, h2 => by
    have hW := zWy_p hok hn (fun k hk => (hp.2 k hk).1)
    have et := tstA_eq (a := a) (b := b) hW
    refine b_Tr_tellApart_18 hS ⟨fun h9 => absurd h9 (nI_ge (by omega) (by omega)), fun _ => w_Tr_endOf hok hn ha hS hp (fun S1 j1 => b_Tr_tellApart_24 (j1.sh hS) ?_)⟩
    have hS1 := j1.sh hS
    refine w_Tr_endOf hok hn hb hS1 (hp.J j1 rfl) (fun S2 j2 => b_Tr_tellApart_27 (j2.sh hS1) ?_)
    have j12 := j1.tr j2
    have hS2 := j2.sh hS1
    have jt : zJ lTr S S2 := zJ3 j12 (zsub_of rfl)
    have eI : apI F n a b (f + 1) pk = if tstA F n a b pk = true then true else apI F n a b f (advK F.length n pk).2 := rfl
    refine ⟨fun h9 => ?_, fun h9 => ⟨rfl, h1 ?_ S2 jt⟩⟩
    · have e : tstA F n a b pk = false := et.1 h9
      rw [eI, e, if_neg (by decide)] at h1 h2
      have hJ2 : jLO S2 F := by
        unfold jLO
        rw [j12.2 110 rfl, j12.2 115 rfl, j12.2 116 rfl, j12.2 117 rfl]
        exact hJ
      refine w_Tr_advance hF h0 hn.2 hS2 hJ2 (hp.J j12 rfl) (fun S3 j3 p3 => b_Tr_tellApart_32 (j3.sh hS2) ?_)
      rw [nI_add]
      have jt3 : zJ lTr S S3 := jt.tr (zJ3 j3 (zsub_of rfl))
      exact w_Tr_tA18 hok hF h0 hn ha hb hN f (i + 1) (j3.sh hS2) (hJ2.P j3) p3 (by omega) (fun h S' j' => h1 h S' (jt3.tr j')) (fun h S' u6 u7 j' => h2 h S' u6 u7 (jt3.tr j'))
    · rw [eI, if_pos (et.2 h9)]
theorem w_Tr_tA2 {wd mv pr a b acts : Nat} {Q : ZOut → ZSt → Prop} (hw : wd ≤ 3) (hm : mv ≤ 1) (hp : pr ≤ 1) (ha : a ≤ 9) (hb : b ≤ 9) (hac : acts ≤ 3) : ∀ (f n : Nat) {S : ZSt} {u6 u7 : Option Value}, zSh S → zI S 93 3 = nI wd → zI S 93 4 = nI pr → zI S 93 5 = nI mv → 1 ≤ n → f + n = acts + 1 → (∀ S', zJ lTr S S' → Q (.inl (some (.int (zBo (apLen wd mv pr a b f n))))) S') → zW 6 m_Tr_tellApart 2 [some (.ref 110), some (.int (nI acts)), some (.int (nI a)), some (.int (nI b)), some (.ref 93), some (.int (nI n)), u6, u7] [] S Q
  | 0, n, S, u6, u7, hS, v3, v4, v5, h1, hf, hQ => b_Tr_tellApart_2 hS ⟨fun _ => ⟨rfl, hQ S zJ.rf⟩, fun h9 => absurd (nI_lt (show acts < n by omega) (by omega)) h9⟩
  | f + 1, n, S, u6, u7, hS, v3, v4, v5, h1, hf, hQ => by
    have hn : 1 ≤ n ∧ n ≤ 3 := by omega
    obtain ⟨hok, hL⟩ := chkL_at (H := 1) (by omega) hn hw hm hp
    have hpos : 0 < (letF 1 n wd mv pr).length := by
      unfold letF
      simp only [List.length_append, List.length_cons, List.length_nil]
      omega
    have hN : (letF 1 n wd mv pr).length ^ n < 2 ^ 31 := Nat.lt_of_le_of_lt (Nat.le_trans (Nat.pow_le_pow_left hL n) (Nat.pow_le_pow_right (by omega) hn.2)) (by decide)
    refine b_Tr_tellApart_2 hS ⟨fun h9 => absurd h9 (nI_nlt (by omega) (by omega)), fun _ => ⟨fun h9 => absurd h9 (nI_nlt (by omega) (by omega)), fun _ => w_Tr_begin hS (H := 1) (by omega) hn hw hm hp v3 v4 v5 (fun S1 j1 l1 p1 => b_Tr_tellApart_13 (j1.sh hS) ?_)⟩⟩
    have hS1 := j1.sh hS
    refine w_Tr_wol hL hn.2 hS1 l1 p1.1 (b_Tr_tellApart_15 hS1 ?_)
    have jt : zJ lTr S S1 := zJ3 j1.1 (zsub_of rfl)
    have eL : apLen wd mv pr a b (f + 1) n = if apI (letF 1 n wd mv pr) n a b ((letF 1 n wd mv pr).length ^ n) (fun _ => 0) = true then true else apLen wd mv pr a b f (n + 1) := rfl
    refine w_Tr_tA18 hok hL hpos hn ha hb hN ((letF 1 n wd mv pr).length ^ n) 0 hS1 l1 p1 (by omega) (fun h S' j' => ?_) (fun h S' u6 u7 j' => ?_)
    · have hq := hQ S' (jt.tr j')
      rw [eL, if_pos h] at hq
      exact hq
    · have jt2 := jt.tr j'
      rw [eL, h, if_neg (by decide)] at hQ
      exact w_Tr_tA2 hw hm hp ha hb hac f (n + 1) (j'.sh hS1) (by rw [jt2.2 93 rfl]; exact v3) (by rw [jt2.2 93 rfl]; exact v4) (by rw [jt2.2 93 rfl]; exact v5) (by omega) (by omega) (fun S3 j3 => hQ S3 (jt2.tr j3))
