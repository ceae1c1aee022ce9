/-! A TASK's text: what was read is well formed -/
theorem vwd_r {b : Nat → Nat} {e p : Nat} (h : vwd (tkW b e p) ≠ 0) : tkK b e p = 1 ∧ vwd (tkW b e p) ≤ 4 := by
  obtain ⟨v0, v1, v2, v3, v4, v5, v6, z1, z2, z3, z4, z5, z6, z7⟩ := sVne
  unfold vwd at h ⊢
  by_cases a1 : tkW b e p = sV 61
  · rw [if_pos a1]
    exact ⟨tkW_1 z1 a1, by omega⟩
  · rw [if_neg a1] at h ⊢
    by_cases a2 : tkW b e p = sV 63
    · rw [if_pos a2]
      exact ⟨tkW_1 z2 a2, by omega⟩
    · rw [if_neg a2] at h ⊢
      by_cases a3 : tkW b e p = sV 65
      · rw [if_pos a3]
        exact ⟨tkW_1 z3 a3, by omega⟩
      · rw [if_neg a3] at h ⊢
        by_cases a4 : tkW b e p = sV 67
        · rw [if_pos a4]
          exact ⟨tkW_1 z4 a4, by omega⟩
        · rw [if_neg a4] at h
          exact absurd rfl h
theorem kLt {b : Nat → Nat} {e p : Nat} (hp : p ≤ e) (h : tkK b e p ≠ 0) : tkS b e p < e ∧ tkS b e p < tkE b e p ∧ tkE b e p ≤ e := by
  have kk : ¬ tkS b e p = e := fun z => h ((tkK_0 hp).mpr z)
  have := (tkS_le (b := b) hp).2
  exact ⟨by omega, tkE_gt (by omega), tkE_le hp⟩
theorem val_r {b : Nat → Nat} {e p c v q : Nat} (hp : p ≤ e) (h : val b e p = .inr (c, v, q)) : c ≤ 4 ∧ vok c v ∧ tkS b e p < q ∧ q ≤ e := by
  unfold val at h
  by_cases k2 : tkK b e p = 2
  · obtain ⟨l1, l2, l3⟩ := kLt (b := b) hp (by omega)
    rw [if_pos k2] at h
    split at h
    · rename_i hv
      cases h
      exact ⟨by omega, ⟨hv, fun y => by omega, fun y => by omega⟩, l2, l3⟩
    · cases h
  · rw [if_neg k2] at h
    by_cases w0 : vwd (tkW b e p) = 0
    · rw [if_pos w0] at h
      cases h
    · rw [if_neg w0] at h
      obtain ⟨k1, w4⟩ := vwd_r w0
      obtain ⟨l1, l2, l3⟩ := kLt (b := b) hp (by omega)
      by_cases c4 : vwd (tkW b e p) = 4
      · rw [if_pos c4] at h
        cases h
        exact ⟨by omega, ⟨by omega, fun y => by omega, fun y => by omega⟩, l2, l3⟩
      · rw [if_neg c4] at h
        by_cases k3 : tkK b e (tkE b e p) = 2
        · rw [if_pos k3] at h
          obtain ⟨m1, m2, m3⟩ := kLt (b := b) l3 (by omega)
          have := (tkS_le (b := b) l3).1
          split at h
          · rename_i hv
            cases h
            refine ⟨w4, ⟨?_, fun y => ?_, fun y => ?_⟩, by omega, m3⟩
            · unfold vmq at hv
              split at hv <;> omega
            · unfold vmq at hv
              rw [if_neg (by omega)] at hv
              omega
            · unfold vmq at hv
              rw [if_pos y] at hv
              omega
          · cases h
        · rw [if_neg k3] at h
          cases h
theorem sjLt {b : Nat → Nat} {e p : Nat} (hp : p ≤ e) (h : sj (hr b e p) ≠ 0) : tkS b e p < tkE b e p ∧ tkE b e p ≤ e := by
  have k3 : tkK b e p = 3 := by
    rcases sj_r h with y | y | y | y
    · exact ((hr_is (c := 43) (by rfl) (by omega)).mp y.1).1
    · exact ((hr_is (c := 45) (by rfl) (by omega)).mp y.1).1
    · exact ((hr_is (c := 42) (by rfl) (by omega)).mp y.1).1
    · exact ((hr_is (c := 47) (by rfl) (by omega)).mp y.1).1
  exact (kLt hp (by omega)).2
theorem scLt {b : Nat → Nat} {e p : Nat} (hp : p ≤ e) (h : sc (hr b e p) ≠ 0) : tkS b e p < tkE b e p ∧ tkE b e p ≤ e := by
  have k3 : tkK b e p = 3 := by
    rcases sc_r h with y | y | y
    · exact ((hr_is (c := 60) (by rfl) (by omega)).mp y.1).1
    · exact ((hr_is (c := 62) (by rfl) (by omega)).mp y.1).1
    · exact ((hr_is (c := 61) (by rfl) (by omega)).mp y.1).1
  exact (kLt hp (by omega)).2
theorem sw_r {w : Nat} (h : sw w ≠ 0) : (w = sV 73 ∧ sw w = 12 ∧ ran (sw w) = 1) ∨ (w = sV 71 ∧ sw w = 13 ∧ ran (sw w) = 2) := by
  by_cases h1 : w = sV 73
  · have : sw w = 12 := if_pos h1
    rw [this]
    exact Or.inl ⟨h1, rfl, rfl⟩
  · by_cases h2 : w = sV 71
    · have : sw w = 13 := (if_neg h1).trans (if_pos h2)
      rw [this]
      exact Or.inr ⟨h2, rfl, rfl⟩
    · exact absurd ((if_neg h1).trans (if_neg h2)) h
theorem swLt {b : Nat → Nat} {e p : Nat} (hp : p ≤ e) (h : sw (tkW b e p) ≠ 0) : tkS b e p < tkE b e p ∧ tkE b e p ≤ e := by
  obtain ⟨v0, v1, v2, v3, v4, v5, v6, z1, z2, z3, z4, z5, z6, z7⟩ := sVne
  rcases sw_r h with y | y
  · exact (wLt hp z7 y.1).2
  · exact (wLt hp z6 y.1).2
theorem om_i {b : Nat → Nat} {e B q : Nat} {oo : List (Nat × Nat)} : ∀ (f : Nat) (lv bb ev cp : Bool) (W : List Nat) (op p : Nat) (o : List (Nat × Nat)), iOm B lv bb W op p o → p ≤ e → om b e f lv bb ev cp W op p o = .inr (q, oo) → ∃ o', oo = o' ++ [(15, 0)] ∧ wfR o' 0 1 ∧ B + o'.length + 1 ≤ q ∧ q ≤ e ∧ p < q
  | 0, lv, bb, ev, cp, W, op, p, o, hi, hp, h => by cases h
  | f + 1, true, bb, ev, cp, W, op, p, o, hi, hp, h => by
    obtain ⟨s1, s2⟩ := tkS_le (b := b) hp
    obtain ⟨v0, v1, v2, v3, v4, v5, v6, z1, z2, z3, z4, z5, z6, z7⟩ := sVne
    rw [om_t] at h
    by_cases c1 : hr b e p = 40
    · rw [if_pos c1] at h
      obtain ⟨eE, lt⟩ := ktE hp c1 rfl
      by_cases c6 : 6 ≤ op
      · rw [if_pos c6] at h
        cases h
      · rw [if_neg c6] at h
        obtain ⟨o', g1, g2, g3, g4, g5⟩ := om_i f true false ev cp (16 :: W) (op + 1) (tkE b e p) o (hi.opns (by omega) (by omega) (Or.inl ⟨rfl, rfl⟩)) (tkE_le hp) h
        exact ⟨o', g1, g2, g3, g4, by omega⟩
    · rw [if_neg c1] at h
      by_cases c2 : bb = true ∧ hr b e p = 91
      · rw [if_pos c2] at h
        obtain ⟨eE, lt⟩ := ktE hp c2.2 rfl
        by_cases c6 : 6 ≤ op
        · rw [if_pos c6] at h
          cases h
        · rw [if_neg c6] at h
          obtain ⟨o', g1, g2, g3, g4, g5⟩ := om_i f true true ev false (17 :: W) (op + 1) (tkE b e p) o (hi.opns (by omega) (by omega) (Or.inr ⟨Or.inl rfl, c2.1⟩)) (tkE_le hp) h
          exact ⟨o', g1, g2, g3, g4, by omega⟩
      · rw [if_neg c2] at h
        by_cases c3 : bb = true ∧ tkW b e p = sV 69
        · rw [if_pos c3] at h
          obtain ⟨l1, l2, l3⟩ := wLt hp z5 c3.2
          by_cases c6 : 6 ≤ op
          · rw [if_pos c6] at h
            cases h
          · rw [if_neg c6] at h
            obtain ⟨o', g1, g2, g3, g4, g5⟩ := om_i f true true ev false (14 :: W) (op + 1) (tkE b e p) o (hi.opns (by omega) (by omega) (Or.inr ⟨Or.inr rfl, c3.1⟩)) l3 h
            exact ⟨o', g1, g2, g3, g4, by omega⟩
        · rw [if_neg c3] at h
          cases hv : val b e p with
          | inl x =>
            rw [hv] at h
            cases h
          | inr y =>
            obtain ⟨c, v, q'⟩ := y
            rw [hv] at h
            obtain ⟨a1, a2, a3, a4⟩ := val_r hp hv
            obtain ⟨o', g1, g2, g3, g4, g5⟩ := om_i f false bb true cp W op q' (o ++ [(c, v)]) (hi.val (by omega) a1 a2) a4 h
            exact ⟨o', g1, g2, g3, g4, by omega⟩
  | f + 1, false, bb, ev, cp, W, op, p, o, hi, hp, h => by
    obtain ⟨s1, s2⟩ := tkS_le (b := b) hp
    rw [om_f] at h
    by_cases c1 : ev = true ∧ sj (hr b e p) ≠ 0
    · rw [if_pos c1] at h
      obtain ⟨l1, l2⟩ := sjLt hp c1.2
      have js := hi.join (p' := tkE b e p) (s := sj (hr b e p)) (bb' := false) (by omega) (Or.inl ⟨by rcases sj_r c1.2 with y | y | y | y <;> omega, rfl⟩)
      obtain ⟨o', g1, g2, g3, g4, g5⟩ := om_i f true false ev cp _ _ (tkE b e p) _ js l2 h
      exact ⟨o', g1, g2, g3, g4, by omega⟩
    · rw [if_neg c1] at h
      by_cases c2 : inn W = 16
      · rw [if_pos c2] at h
        by_cases c3 : hr b e p = 41
        · rw [if_pos c3] at h
          obtain ⟨eE, lt⟩ := ktE hp c3 rfl
          obtain ⟨js, -⟩ := hi.close (p' := tkE b e p) (bb' := bb) (by omega) (Or.inl rfl) c2
          obtain ⟨o', g1, g2, g3, g4, g5⟩ := om_i f false bb true cp _ _ (tkE b e p) _ js (tkE_le hp) h
          exact ⟨o', g1, g2, g3, g4, by omega⟩
        · rw [if_neg c3] at h
          cases h
      · rw [if_neg c2] at h
        by_cases c3 : ev = true ∧ cp = false
        · rw [if_pos c3] at h
          by_cases c4 : sc (hr b e p) ≠ 0
          · rw [if_pos c4] at h
            obtain ⟨l1, l2⟩ := scLt hp c4
            have r4 : ran (sc (hr b e p)) = 4 := by
              rcases sc_r c4 with y | y | y <;> rw [y.2] <;> rfl
            have js := hi.join (p' := tkE b e p) (s := sc (hr b e p)) (bb' := false) (by omega) (Or.inr ⟨c2, Or.inl ⟨by rcases sc_r c4 with y | y | y <;> omega, rfl⟩⟩)
            rw [r4] at js
            obtain ⟨o', g1, g2, g3, g4, g5⟩ := om_i f true false ev true _ _ (tkE b e p) _ js l2 h
            exact ⟨o', g1, g2, g3, g4, by omega⟩
          · rw [if_neg c4] at h
            cases h
        · rw [if_neg c3] at h
          by_cases c4 : sw (tkW b e p) ≠ 0
          · rw [if_pos c4] at h
            obtain ⟨l1, l2⟩ := swLt hp c4
            have js := hi.join (p' := tkE b e p) (s := sw (tkW b e p)) (bb' := true) (by omega) (Or.inr ⟨c2, Or.inr (by rcases sw_r c4 with y | y <;> omega)⟩)
            obtain ⟨o', g1, g2, g3, g4, g5⟩ := om_i f true true ev false _ _ (tkE b e p) _ js l2 h
            exact ⟨o', g1, g2, g3, g4, by omega⟩
          · rw [if_neg c4] at h
            by_cases c5 : inn W = 17
            · rw [if_pos c5] at h
              by_cases c6 : hr b e p = 93
              · rw [if_pos c6] at h
                obtain ⟨eE, lt⟩ := ktE hp c6 rfl
                obtain ⟨js, -⟩ := hi.close (p' := tkE b e p) (bb' := bb) (by omega) (Or.inr rfl) c5
                obtain ⟨o', g1, g2, g3, g4, g5⟩ := om_i f false bb false cp _ _ (tkE b e p) _ js (tkE_le hp) h
                exact ⟨o', g1, g2, g3, g4, by omega⟩
              · rw [if_neg c6] at h
                cases h
            · rw [if_neg c5] at h
              by_cases c6 : hr b e p = 59
              · rw [if_pos c6] at h
                obtain ⟨eE, lt⟩ := ktE hp c6 rfl
                obtain ⟨h1, h2, h3, g4, h5⟩ := hi
                obtain ⟨a1, a2, a3, a4, a5⟩ := wof_i (r := 1) (Nat.le_refl _) W op o h1 g4
                have e0 := wof_nil W op o h1 c2 c5
                cases h
                rw [e0] at a2 a3
                have a3 : 0 + (wof 1 W op o).2.2.length = W.length + o.length := a3
                exact ⟨_, rfl, a2, by omega, tkE_le hp, by omega⟩
              · rw [if_neg c6] at h
                cases h
theorem flat_a : ∀ (cs : List (List (Nat × Nat))) (c : List (Nat × Nat)), flat (cs ++ [c]) = flat cs ++ (c ++ [(15, 0)])
  | [], c => rfl
  | x :: r, c => by
    show x ++ (15, 0) :: flat (r ++ [c]) = (x ++ (15, 0) :: flat r) ++ (c ++ [(15, 0)])
    rw [flat_a r c, List.append_assoc]
    rfl
theorem totl_le : ∀ (cs : List (List (Nat × Nat))), totl cs + cs.length = (flat cs).length
  | [] => rfl
  | x :: r => by
    have := totl_le r
    have e1 : totl (x :: r) = x.length + totl r := rfl
    have e2 : (x :: r).length = r.length + 1 := rfl
    have e3 : (flat (x :: r)).length = x.length + ((flat r).length + 1) := by
      show (x ++ (15, 0) :: flat r).length = _
      rw [List.length_append]
      rfl
    omega
theorem iOm_0 {B p : Nat} (h : B ≤ p) : iOm B true true [] 0 p [] := ⟨rfl, by omega, by show B + 0 + 0 ≤ p; omega, rfl, fun _ _ => Nat.zero_le _⟩
theorem tlp_i {b : Nat → Nat} {e : Nat} {cs' : List (List (Nat × Nat))} (he : e ≤ 400) : ∀ (f p : Nat) (cs : List (List (Nat × Nat))), p ≤ e → (flat cs).length ≤ p → (∀ c ∈ cs, wfE c 0) → cs.length ≤ 12 → tlp b e f p cs = .inr cs' → wfT cs'
  | 0, p, cs, hp, hl, hw, hn, h => by cases h
  | f + 1, p, cs, hp, hl, hw, hn, h => by
    rw [tlp_s] at h
    by_cases k0 : tkK b e p = 0
    · rw [if_pos k0] at h
      by_cases c0 : cs.length = 0
      · rw [if_pos c0] at h
        cases h
      · rw [if_neg c0] at h
        cases h
        exact ⟨hn, by omega, hw⟩
    · rw [if_neg k0] at h
      by_cases c12 : cs.length = 12
      · rw [if_pos c12] at h
        cases h
      · rw [if_neg c12] at h
        cases ho : om b e 401 true true false false [] 0 p [] with
        | inl x =>
          rw [ho] at h
          cases h
        | inr y =>
          obtain ⟨q, oo⟩ := y
          rw [ho] at h
          obtain ⟨o', g1, g2, g3, g4, g5⟩ := om_i (B := (flat cs).length) 401 true true false false [] 0 p [] (iOm_0 hl) hp ho
          subst g1
          have h' : tlp b e f q (cs ++ [(o' ++ [(15, 0)]).dropLast]) = .inr cs' := h
          rw [List.dropLast_concat] at h'
          have e1 : (flat (cs ++ [o'])).length = (flat cs).length + (o'.length + 1) := by
            rw [flat_a, List.length_append, List.length_append]
            rfl
          have e2 : (cs ++ [o']).length = cs.length + 1 := by
            rw [List.length_append]
            rfl
          refine tlp_i he f q (cs ++ [o']) g4 (by omega) (fun c hc => ?_) (by omega) h'
          rcases List.mem_append.mp hc with y | y
          · exact hw c y
          · rw [List.mem_singleton.mp y]
            exact wfR_E _ _ g2
