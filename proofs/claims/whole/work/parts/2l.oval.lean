/-! A TASK's text, the object's reader: a value, a step of the machine -/
/-- what stands in the object while a condition is read, O said before it -/
def omS (b : Nat → Nat) (e : Nat) (O : List (Nat × Nat)) (S : ZSt) (lv bb ev cp : Bool) (W : List Nat) (op p : Nat) (o : List (Nat × Nat)) : Prop := (jTo S b e p ∧ p ≤ e) ∧ (jFg S lv bb ev cp ∧ jWa S W op) ∧ (jOu S (O ++ o) ∧ iOm O.length lv bb W op p o)
theorem jFg.b7 {S : ZSt} {lv bb ev cp : Bool} (h : jFg S lv bb ev cp) : (zI S 86 7 = 0 ↔ bb = false) := by
  rw [h.1.2]
  cases bb with
  | false => exact ⟨fun _ => rfl, fun _ => by decide⟩
  | true => exact ⟨fun h9 => absurd h9 (by decide), fun h9 => by cases h9⟩
theorem jFg.b8 {S : ZSt} {lv bb ev cp : Bool} (h : jFg S lv bb ev cp) : (zI S 86 8 = 0 ↔ ev = false) := h.2.1
theorem jFg.b9 {S : ZSt} {lv bb ev cp : Bool} (h : jFg S lv bb ev cp) : (zI S 86 9 = 0 ↔ cp = false) := by
  rw [h.2.2]
  cases cp with
  | false => exact ⟨fun _ => rfl, fun _ => by decide⟩
  | true => exact ⟨fun h9 => absurd h9 (by decide), fun h9 => by cases h9⟩
theorem jFg.b6 {S : ZSt} {lv bb ev cp : Bool} (h : jFg S lv bb ev cp) : (zI S 86 6 = 0 ↔ lv = false) := by
  rw [h.1.1]
  cases lv with
  | false => exact ⟨fun _ => rfl, fun _ => by decide⟩
  | true => exact ⟨fun h9 => absurd h9 (by decide), fun h9 => by cases h9⟩
theorem jOu.as {S : ZSt} {O o : List (Nat × Nat)} {x : Nat × Nat} (h : jOu S ((O ++ o) ++ [x])) : jOu S (O ++ (o ++ [x])) := by
  rw [← List.append_assoc]
  exact h
theorem nE1 {k : Nat} (hk : k < 1000) : ¬ nI k = - nI 1 := nI_m1 (by omega)
theorem w_TR_readsValue {b : Nat → Nat} {e p op : Nat} {W : List Nat} {O o : List (Nat × Nat)} {bb ev cp : Bool} {S : ZSt} {Q : ZOut → ZSt → Prop} (hS : zSh S) (hC : zCst S) (hx : jTx S b e) (h : omS b e O S true bb ev cp W op p o)
    (bad : ∀ k t, (∀ f, om b e (f + 1) true bb ev cp W op p o = .inl (k, t)) → ∀ S', zTj S S' → zI S' 76 7 = nI k → zI S' 76 8 = nI t → Q (.inl (some (.int (nI 0)))) S')
    (ok : ∀ lv' bb' ev' cp' W' op' p' o', (∀ f, om b e (f + 1) true bb ev cp W op p o = om b e f lv' bb' ev' cp' W' op' p' o') → p < p' → ∀ S', zTj S S' → omS b e O S' lv' bb' ev' cp' W' op' p' o' → zI S' 76 8 = zI S 76 8 → zI S' 86 10 = zI S 86 10 → Q (.inl (some (.int (nI 1)))) S') : zC m_TR_readsValue [.ref 86, .ref 76] S Q := by
  obtain ⟨⟨ht, hp⟩, ⟨hf, hw⟩, ho, hi⟩ := h
  have he := hx.1
  have I40 := hr_is (b := b) (e := e) (p := p) (c := 40) rfl (by omega)
  have I91 := hr_is (b := b) (e := e) (p := p) (c := 91) rfl (by omega)
  have wl := hi.len
  have i6 := hi.2.1
  have il := hi.2.2.1
  have kl : tkK b e p ≠ 0 → p < tkE b e p := fun hk => by
    have := kLt (b := b) hp hk
    have := (tkS_le (b := b) hp).1
    omega
  have el := tkE_le (b := b) hp
  -- opening
  have opn' : ∀ (s : Nat) (x : Bool), tkK b e p ≠ 0 → (s = 16 ∧ x = false) ∨ ((s = 17 ∨ s = 14) ∧ x = true) → (x = true → bb = true) → (∀ f, om b e (f + 1) true bb ev cp W op p o = if 6 ≤ op then .inl (3, tkS b e p) else om b e f true x ev (if x = true then false else cp) (s :: W) (op + 1) (tkE b e p) o) → ∀ (K : ZOut → ZSt → Prop), (∀ v S', Q (.inl (some (.int v))) S' → zSh S' → narrow .boolean (.int v) = .int v → K (.inl (some (.int v))) S') → zC m_TR_opens [.ref 86, .ref 76, .int (nI s)] S K := fun s x hk hs hb hom K hK => by
    refine w_TR_opens hs hS hx hp ht hf hw ho (by omega) i6 (fun o6 S' j a7 a8 => hK _ _ (bad 3 _ (fun f => by rw [hom f, if_pos o6]) S' j a7 a8) (j.1.sh hS) (by decide)) (fun o6 S' j t' f' w' o' a8 a10 => hK _ _ (ok true x ev _ _ _ _ _ (fun f => by rw [hom f, if_neg (by omega)]) (kl hk) S' j ⟨⟨t', el⟩, ⟨f', w'⟩, o', ?_⟩ a8 a10) (j.1.sh hS) (by decide))
    refine hi.opns o6 (kl hk) ?_
    rcases hs with hs | ⟨hs, hx'⟩
    · exact Or.inl hs
    · exact Or.inr ⟨hs, hb hx'⟩
  -- a value's end
  have fin : ∀ (c v q : Nat) (x3 : Int32) {S1 : ZSt}, (∀ f, om b e (f + 1) true bb ev cp W op p o = om b e f false bb true cp W op q (o ++ [(c, v)])) → val b e p = .inr (c, v, q) → zTj S S1 → zI S1 86 = zI S 86 → zI S1 87 = zI S 87 → zI S1 88 = zI S 88 → zI S1 89 = zI S 89 → jTo S1 b e q → zI S1 76 8 = zI S 76 8 → zcl 7 m_TR_readsValue m_TR_add 151 84 [some (.ref 86), some (.ref 76), some (.int (nI c)), some (.int x3), some (.int (nI v))] [] [.ref 86, .int (nI c), .int (nI v)] S1 Q := fun c v q x3 S1 hom hv j1 e6 e7 e8 e9 t1 a8 => by
    obtain ⟨v4, vv, vq, qe⟩ := val_r hp hv
    have := (tkS_le (b := b) hp).1
    have hS1 := j1.1.sh hS
    refine w_TR_add hS1 (ho.c (by rw [e6]) e7 e8) (by rw [List.length_append]; omega) (fun S2 j2 f2 g2 o2 => b_TR_readsValue_85 (j2.sh hS1) (w_TR_complete (x := true) (lv := true) (bb := bb) (ev := ev) (cp := cp) (j2.sh hS1) (hf.c (fun j hj => by rw [f2 j (by omega), e6])) (fun S3 j3 a3 c3 fl => b_TR_readsValue_88 (j3.sh (j2.sh hS1)) ⟨by decide, ok false bb true cp W op q (o ++ [(c, v)]) hom (by omega) S3 ((j1.tr j2.j).tr j3.j) ⟨⟨t1.c ?_, qe⟩, ⟨fl, hw.c ?_ ?_ ?_⟩, o2.as.c ?_ ?_ ?_, hi.val (by omega) v4 vv⟩ ?_ ?_⟩)))
    · rw [c3 76 (by omega), j2.2 76 rfl]
    · rw [a3 4 (by omega), f2 4 (by omega), e6]
    · rw [a3 5 (by omega), f2 5 (by omega), e6]
    · rw [c3 89 (by omega), g2, e9]
    · rw [a3 2 (by omega)]
    · exact c3 87 (by omega)
    · exact c3 88 (by omega)
    · rw [c3 76 (by omega), j2.2 76 rfl]
      exact a8
    · rw [a3 10 (by omega), f2 10 (by omega), e6]
  obtain ⟨v0, v1, v2, v3, v4, v5, v6, z1, z2, z3, z4, z5, z6, z7⟩ := sVne
  have bbt : ¬ zI S 86 7 = 0 → bb = true := fun y => by
    cases hb : bb with
    | true => rfl
    | false => exact absurd (hf.b7.mpr hb) y
  have K21 : ¬ hr b e p = 40 → ¬ (bb = true ∧ hr b e p = 91) → zW 7 m_TR_readsValue 21 [some (.ref 86), some (.ref 76), none, none, none] [] S Q := fun n40 n91 => by
    have K65 : ¬ (bb = true ∧ tkW b e p = sV 69) → ((zI S 76 5 = nI 2 → zW 7 m_TR_readsValue 65 [some (.ref 86), some (.ref 76), some (.int (nI 0)), some (.int (nI 9999)), none] [] S Q) ∧ (¬ zI S 76 5 = nI 2 → zcl 7 m_TR_readsValue m_Ta_wordAmong 82 43 [some (.ref 86), some (.ref 76), some (.int (nI 0)), some (.int (nI 9999)), none] [] [.ref 76, .ref 13] S Q)) := fun nw => by
      have homB : ∀ k t, val b e p = .inl (k, t) → ∀ f, om b e (f + 1) true bb ev cp W op p o = .inl (k, t) := fun k t hv f => by
        rw [om_t, if_neg n40, if_neg n91, if_neg nw, hv]
      have homV : ∀ c v q, val b e p = .inr (c, v, q) → ∀ f, om b e (f + 1) true bb ev cp W op p o = om b e f false bb true cp W op q (o ++ [(c, v)]) := fun c v q hv f => by
        rw [om_t, if_neg n40, if_neg n91, if_neg nw, hv]
      rw [ht.2.2.1]
      refine ⟨fun k2 => ?_, fun k2 => ?_⟩
      · have K2 : tkK b e p = 2 := nEq (by have := tkK_le (b := b) (e := e) (p := p); omega) (by omega) k2
        refine b_TR_readsValue_65 hS ⟨fun _ => w_Ta_takeNumber (lo := 0) (hi := 9999) rfl hS hx hp ht (fun _ _ a3 a4 S1 j1 t1 => b_TR_readsValue_75 (j1.1.sh hS) ⟨fun _ => ?_, fun h9 => absurd a4 h9⟩) (fun a1 => absurd K2 a1) (fun _ a2 => b_TR_readsValue_75 (sh76 hS) ⟨fun h9 => absurd rfl h9, fun _ => ⟨by decide, bad 2 _ (homB _ _ ?_) _ zTj.rf.bad (by rw [zI_o (by omega), zI_s]) zI_s⟩⟩), fun h9 => absurd (by decide) h9⟩
        · have V : val b e p = .inr (0, tkV b e p, tkE b e p) := by
            unfold val
            rw [if_pos K2, if_pos a3]
          exact fin 0 (tkV b e p) (tkE b e p) _ (homV _ _ _ V) V j1.j (j1.1.2 86 rfl) (j1.1.2 87 rfl) (j1.1.2 88 rfl) (j1.1.2 89 rfl) t1 (j1.2 8 (by omega))
        · unfold val
          have n : ¬ tkV b e p ≤ 9999 := fun y => by
            rcases a2 with a2 | a2
            · exact a2 ⟨Nat.zero_le _, y⟩
            · exact absurd a2 (nI_m1 (by omega))
          rw [if_pos K2, if_neg n]
      · have K2 : ¬ tkK b e p = 2 := fun y => k2 (by rw [y])
        refine w_Ta_wordAmong rfl hS hC hx hp ht (b_TR_readsValue_44 hS ?_)
        rw [wx13]
        by_cases w0 : vwd (tkW b e p) = 0
        · rw [if_pos w0]
          refine ⟨fun h9 => absurd rfl h9, fun _ => w_Ta_refuse hS ?_⟩
          rw [ht.1]
          refine b_TR_readsValue_51 (sh76 hS) ⟨by decide, bad 1 _ (homB _ _ ?_) _ zTj.rf.bad (by rw [zI_o (by omega), zI_s]) zI_s⟩
          unfold val
          rw [if_neg K2, if_pos w0]
        · obtain ⟨k1, w4⟩ := vwd_r w0
          have eN : nI 1 + nI (vwd (tkW b e p) - 1) = nI (vwd (tkW b e p)) := by
            rw [nI_add, show 1 + (vwd (tkW b e p) - 1) = vwd (tkW b e p) by omega]
          rw [if_neg w0, eN]
          have K64 : ∀ m, m = vmq (vwd (tkW b e p)) → m ≤ 23 → zcl 7 m_TR_readsValue m_Ta_advance 118 64 [some (.ref 86), some (.ref 76), some (.int (nI (vwd (tkW b e p)))), some (.int (nI m)), some (.int (nI (vwd (tkW b e p) - 1)))] [] [.ref 76] S Q := fun m hm hm' => by
            refine w_Ta_advance (p := tkE b e p) hS hx el ht.2.1 (fun S1 j1 t1 => b_TR_readsValue_65 (j1.1.sh hS) ⟨fun n4 => ?_, fun e4 => ⟨fun _ => ?_, fun h9 => absurd (nE1 (by omega)) h9⟩⟩)
            · have hS1 := j1.1.sh hS
              have n4' : ¬ vwd (tkW b e p) = 4 := fun y => n4 (by rw [y])
              have qq := tkV_le (b := b) (e := e) (p := tkE b e p)
              refine w_Ta_takeNumber (lo := 0) (hi := m) (by rw [Bool.and_eq_true]; exact ⟨rfl, Nat.ble_eq_true_of_le (by omega)⟩) hS1 (hx.j j1.j) el t1 (fun a1 _ a3 a4 S2 j2 t2 => b_TR_readsValue_75 (j2.1.sh hS1) ⟨fun _ => ?_, fun h9 => absurd a4 h9⟩) (fun a1 => b_TR_readsValue_75 (sh76 hS1) ⟨fun h9 => absurd rfl h9, fun _ => ⟨by decide, bad 1 _ (homB _ _ ?_) _ j1.j.bad (by rw [zI_o (by omega), zI_s]) zI_s⟩⟩) (fun a1 a2 => b_TR_readsValue_75 (sh76 hS1) ⟨fun h9 => absurd rfl h9, fun _ => ⟨by decide, bad 2 _ (homB _ _ ?_) _ j1.j.bad (by rw [zI_o (by omega), zI_s]) zI_s⟩⟩)
              · have V : val b e p = .inr (vwd (tkW b e p), tkV b e (tkE b e p), tkE b e (tkE b e p)) := by
                  unfold val
                  rw [if_neg K2, if_neg w0, if_neg n4', if_pos a1, if_pos (by rw [← hm]; exact a3)]
                exact fin _ _ _ _ (homV _ _ _ V) V (j1.j.tr j2.j) ((j2.1.2 86 rfl).trans (j1.1.2 86 rfl)) ((j2.1.2 87 rfl).trans (j1.1.2 87 rfl)) ((j2.1.2 88 rfl).trans (j1.1.2 88 rfl)) ((j2.1.2 89 rfl).trans (j1.1.2 89 rfl)) t2 ((j2.2 8 (by omega)).trans (j1.2 8 (by omega)))
              · unfold val
                rw [if_neg K2, if_neg w0, if_neg n4', if_neg a1]
              · have n : ¬ tkV b e (tkE b e p) ≤ vmq (vwd (tkW b e p)) := fun y => by
                  rcases a2 with a2 | a2
                  · exact a2 ⟨Nat.zero_le _, by rw [hm]; exact y⟩
                  · exact absurd a2 (nI_m1 (by omega))
                unfold val
                rw [if_neg K2, if_neg w0, if_neg n4', if_pos a1, if_neg n]
            · have e4' : vwd (tkW b e p) = 4 := nEq (by omega) (by omega) (Classical.not_not.mp e4)
              have V : val b e p = .inr (4, 0, tkE b e p) := by
                unfold val
                rw [if_neg K2, if_neg w0, if_pos e4']
              rw [e4']
              exact fin 4 0 (tkE b e p) _ (homV _ _ _ V) V j1.j (j1.1.2 86 rfl) (j1.1.2 87 rfl) (j1.1.2 88 rfl) (j1.1.2 89 rfl) t1 (j1.2 8 (by omega))
          refine ⟨fun _ => ⟨fun h3 => K64 11 ?_ (by omega), fun h3 => K64 23 ?_ (by omega)⟩, fun h9 => absurd (nE1 (by omega)) h9⟩
          · unfold vmq
            rw [if_neg (fun y => h3 (by rw [y]))]
          · unfold vmq
            rw [if_pos (nEq (by omega) (by omega) (Classical.not_not.mp h3))]
    refine b_TR_readsValue_21 hS ⟨fun b0 => K65 (fun y => by rw [hf.b7.mp b0] at y; cases y.1), fun b1 => w_Ta_wordAmong rfl hS hC hx hp ht (b_TR_readsValue_27 hS ?_)⟩
    rw [wx11]
    by_cases hw9 : tkW b e p = sV 69
    · rw [if_pos hw9]
      have k1 : tkK b e p = 1 := tkW_1 z5 hw9
      exact ⟨fun h9 => absurd (by decide) h9, fun _ => opn' 14 true (by omega) (Or.inr ⟨Or.inr rfl, rfl⟩) (fun _ => bbt b1) (fun f => om_t.trans ((if_neg n40).trans ((if_neg n91).trans (if_pos ⟨bbt b1, hw9⟩)))) _ (fun v S' hq hS' hn => b_TR_readsValue_32 hS' ⟨hn, hq⟩)⟩
    · rw [if_neg hw9]
      exact ⟨fun _ => K65 (fun y => hw9 y.2), fun h9 => absurd (by decide) h9⟩
  refine b_TR_readsValue hS (w_Ta_isSign (by omega) hS hx hp ht (fun k3 kc => b_TR_readsValue_3 hS ⟨fun h9 => absurd h9 (by decide), fun _ => opn' 16 false (by omega) (Or.inl ⟨rfl, rfl⟩) (fun y => by cases y) (fun f => om_t.trans (if_pos (I40.mpr ⟨k3, kc⟩))) _ (fun v S' hq hS' hn => b_TR_readsValue_8 hS' ⟨hn, hq⟩)⟩) (fun n40 => b_TR_readsValue_3 hS ⟨fun _ => ⟨fun b0 => K21 (fun z => n40 (I40.mp z)) (fun y => by rw [hf.b7.mp b0] at y; cases y.1), fun b1 => w_Ta_isSign (by omega) hS hx hp ht (fun k3 kc => b_TR_readsValue_15 hS ⟨fun h9 => absurd h9 (by decide), fun _ => opn' 17 true (by omega) (Or.inr ⟨Or.inl rfl, rfl⟩) (fun _ => bbt b1) (fun f => om_t.trans ((if_neg (fun z => n40 (I40.mp z))).trans (if_pos ⟨bbt b1, I91.mpr ⟨k3, kc⟩⟩))) _ (fun v S' hq hS' hn => b_TR_readsValue_20 hS' ⟨hn, hq⟩)⟩) (fun n91 => b_TR_readsValue_15 hS ⟨fun _ => K21 (fun z => n40 (I40.mp z)) (fun y => n91 (I91.mp y.2)), fun h9 => absurd rfl h9⟩)⟩, fun h9 => absurd rfl h9⟩))
