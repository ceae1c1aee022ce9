/-! Tasks: the reference's side -/
def cM (c : Nat) : Nat := if c = 12 then 14 else if c = 14 then 12 else c
def runC (V : Nat → Nat → Int32) : List (Nat × Nat) → List Int32 → List Int32
  | [], st => st
  | (c, v) :: r, st => if c ≤ 4 then runC V r (V c v :: st) else if c < 14 then (match st with
    | b :: a :: s => runC V r (wk c a b :: s)
    | _ => []) else (match st with
    | a :: s => runC V r ((nI 1 - a) :: s)
    | _ => [])
theorem runC_v {V : Nat → Nat → Int32} {c v : Nat} {l : List (Nat × Nat)} {st : List Int32} (h4 : c ≤ 4) : runC V ((c, v) :: l) st = runC V l (V c v :: st) := if_pos h4
theorem runC_w {V : Nat → Nat → Int32} {c v : Nat} {l : List (Nat × Nat)} {a b : Int32} {s : List Int32} (h4 : ¬ c ≤ 4) (h14 : c < 14) : runC V ((c, v) :: l) (b :: a :: s) = runC V l (wk c a b :: s) := (if_neg h4).trans (if_pos h14)
theorem runC_n {V : Nat → Nat → Int32} {c v : Nat} {l : List (Nat × Nat)} {a : Int32} {s : List Int32} (h4 : ¬ c ≤ 4) (h14 : ¬ c < 14) : runC V ((c, v) :: l) (a :: s) = runC V l ((nI 1 - a) :: s) := (if_neg h4).trans (if_neg h14)
/-- a condition: from a depth to one value -/
def wfE : List (Nat × Nat) → Nat → Prop
  | [], d => d = 1
  | (c, v) :: r, d => c ≤ 14 ∧ (if c ≤ 4 then d < 32 ∧ vok c v ∧ wfE r (d + 1) else if c < 14 then 2 ≤ d ∧ wfE r (d - 1) else 1 ≤ d ∧ wfE r d)
def flat : List (List (Nat × Nat)) → List (Nat × Nat)
  | [] => []
  | c :: r => c ++ (15, 0) :: flat r
def valC (V : Nat → Nat → Int32) (c : List (Nat × Nat)) : Int32 := (runC V c []).headD 0
def tru (V : Nat → Nat → Int32) : List (List (Nat × Nat)) → Bool
  | [] => true
  | c :: r => if valC V c = 0 then false else tru V r
theorem evC_cond {V : Nat → Nat → Int32} {rest : List (Nat × Nat)} : ∀ (c : List (Nat × Nat)) (st : List Int32), wfE c st.length → evC V (c ++ (15, 0) :: rest) st = if (runC V c st).headD 0 = 0 then false else evC V rest []
  | [], st, h => by
    match st, h with
    | [a], _ => exact evC_m (by omega) (by omega) (by omega)
    | [], h => exact absurd (show (0 : Nat) = 1 from h) (by omega)
    | a :: b :: s, h => exact absurd (show s.length + 1 + 1 = 1 from h) (by omega)
  | (c, v) :: l, st, h => by
    obtain ⟨hc, h⟩ := h
    show evC V ((c, v) :: (l ++ (15, 0) :: rest)) st = _
    by_cases h4 : c ≤ 4
    · rw [if_pos h4] at h
      rw [evC_v h4, runC_v h4]
      exact evC_cond l _ h.2.2
    · rw [if_neg h4] at h
      by_cases h14 : c < 14
      · rw [if_pos h14] at h
        match st, h with
        | b :: a :: s, h =>
          rw [evC_w h4 h14, runC_w h4 h14]
          exact evC_cond l _ h.2
        | [], h => exact absurd h.1 (by show ¬ 2 ≤ 0; omega)
        | [x], h => exact absurd h.1 (by show ¬ 2 ≤ 1; omega)
      · rw [if_neg h14] at h
        match st, h with
        | a :: s, h =>
          rw [evC_n h4 h14 (by omega), runC_n h4 h14]
          exact evC_cond l _ h.2
        | [], h => exact absurd h.1 (by show ¬ 1 ≤ 0; omega)
theorem evC_flat {V : Nat → Nat → Int32} : ∀ (cs : List (List (Nat × Nat))), (∀ c ∈ cs, wfE c 0) → evC V (flat cs) [] = tru V cs
  | [], _ => rfl
  | c :: cs, h => by
    show evC V (c ++ (15, 0) :: flat cs) [] = _
    rw [evC_cond c [] (h c (List.mem_cons_self ..)), evC_flat cs (fun c hc => h c (List.mem_cons_of_mem _ hc))]
    rfl
theorem wfC_cond {rest : List (Nat × Nat)} (hr : wfC rest 0) : ∀ (c : List (Nat × Nat)) (d : Nat), wfE c d → wfC (c ++ (15, 0) :: rest) d
  | [], d, h => by
    obtain rfl : d = 1 := h
    show 15 ≤ 15 ∧ (if 15 ≤ 4 then _ else if 15 < 14 then _ else if 15 = 14 then _ else _)
    refine ⟨Nat.le_refl _, ?_⟩
    rw [if_neg (by omega), if_neg (by omega), if_neg (by omega)]
    exact ⟨Nat.le_refl _, hr⟩
  | (c, v) :: l, d, h => by
    obtain ⟨hc, h⟩ := h
    refine ⟨by omega, ?_⟩
    by_cases h4 : c ≤ 4
    · rw [if_pos h4] at h ⊢
      exact ⟨h.1, h.2.1, wfC_cond hr l _ h.2.2⟩
    · rw [if_neg h4] at h ⊢
      by_cases h14 : c < 14
      · rw [if_pos h14] at h ⊢
        exact ⟨h.1, wfC_cond hr l _ h.2⟩
      · rw [if_neg h14] at h ⊢
        rw [if_pos (by omega)]
        exact ⟨h.1, wfC_cond hr l _ h.2⟩
theorem wfC_flat : ∀ (cs : List (List (Nat × Nat))), (∀ c ∈ cs, wfE c 0) → wfC (flat cs) 0
  | [], _ => trivial
  | c :: cs, h => wfC_cond (wfC_flat cs (fun c hc => h c (List.mem_cons_of_mem _ hc))) c 0 (h c (List.mem_cons_self ..))
def patM (fa fb : Nat → Int32) : Nat → List (Nat × Nat) → Prop
  | _, [] => True
  | i, (c, v) :: r => fa i = nI (cM c) ∧ fb i = nI v ∧ patM fa fb (i + 1) r
def jEM (S : ZSt) (w h p : Nat → Nat) (sd : Nat) : Prop := jN (zI S 145) 12 1000000000 w ∧ jN (zI S 146) 12 1000000000 h ∧ jN (zI S 147) 24 3 p ∧ zI S 130 32 = nI sd
theorem zdivm {x : Int32} : x / - nI 1 = - x := by
  rw [zeq, Int32.toInt_div, ztn (k := 1) rfl, Int32.toInt_neg]
  congr 1
  show x.toInt.tdiv (-1) = - x.toInt
  rw [Int.tdiv_neg, Int.tdiv_one]
theorem cM_eq {c k : Nat} (hc : 5 ≤ c ∧ c ≤ 13) (hk : k ≤ 13) (h : nI (cM c) = nI k) : c = k ∧ c ≠ 12 := by
  have h1 : cM c ≤ 14 := by
    unfold cM
    split
    · omega
    · split
      · omega
      · omega
  have h2 := nEq (by omega) (by omega) h
  unfold cM at h2
  split at h2
  · omega
  · split at h2
    · omega
    · exact ⟨h2, by assumption⟩
theorem hlp_bin {C X Y : Int32} {c : Nat} {K : Int32 → Prop} (hc : 5 ≤ c ∧ c ≤ 13) (hC : C = nI (cM c)) (k : K (wk c X Y)) :
    (((C = nI 5 → K (X + Y)) ∧ ((C = nI 6 → K (X - Y)) ∧ ((C = nI 7 → K (X * Y)) ∧ ((C = nI 8 → ((¬ Y = 0 → ((¬ Y = (- nI 1) → (¬ Y = 0 ∧ K (X / Y))) ∧ (¬ (¬ Y = (- nI 1)) → K (- X)))) ∧ (¬ (¬ Y = 0) → K (nI 0)))) ∧ ((C = nI 9 → ((Y ≤ X → K (nI 0)) ∧ (¬ (Y ≤ X) → K (nI 1)))) ∧ ((C = nI 10 → ((X ≤ Y → K (nI 0)) ∧ (¬ (X ≤ Y) → K (nI 1)))) ∧ ((C = nI 11 → ((¬ X = Y → K (nI 0)) ∧ (¬ (¬ X = Y) → K (nI 1)))) ∧ ((C = nI 12 → K (X ||| Y)) ∧ ((C = nI 13 → K (X &&& Y)) ∧ True))))))))) ∧ (C.toInt < ((5 : Nat) : Int) ∨ ((5 : Nat) : Int) + ((9 : Nat) : Int) ≤ C.toInt → K (X ||| Y))) := by
  subst hC
  refine ⟨⟨fun e => ?_, fun e => ?_, fun e => ?_, fun e => ?_, fun e => ?_, fun e => ?_, fun e => ?_, fun e => ?_, fun e => ?_, trivial⟩, fun e => ?_⟩
  · obtain ⟨rfl, -⟩ := cM_eq hc (by omega) e
    exact k
  · obtain ⟨rfl, -⟩ := cM_eq hc (by omega) e
    exact k
  · obtain ⟨rfl, -⟩ := cM_eq hc (by omega) e
    exact k
  · obtain ⟨rfl, -⟩ := cM_eq hc (by omega) e
    have e8 : wk 8 X Y = if Y = 0 then nI 0 else X / Y := rfl
    rw [e8] at k
    refine ⟨fun h1 => ?_, fun h1 => ?_⟩
    · rw [if_neg h1] at k
      refine ⟨fun _ => ⟨h1, k⟩, fun h2 => ?_⟩
      rw [Classical.not_not.mp h2, zdivm] at k
      exact k
    · rw [if_pos (Classical.not_not.mp h1)] at k
      exact k
  · obtain ⟨rfl, -⟩ := cM_eq hc (by omega) e
    have e8 : wk 9 X Y = if Y ≤ X then nI 0 else nI 1 := rfl
    rw [e8] at k
    refine ⟨fun h1 => ?_, fun h1 => ?_⟩
    · rw [if_pos h1] at k
      exact k
    · rw [if_neg h1] at k
      exact k
  · obtain ⟨rfl, -⟩ := cM_eq hc (by omega) e
    have e8 : wk 10 X Y = if X ≤ Y then nI 0 else nI 1 := rfl
    rw [e8] at k
    refine ⟨fun h1 => ?_, fun h1 => ?_⟩
    · rw [if_pos h1] at k
      exact k
    · rw [if_neg h1] at k
      exact k
  · obtain ⟨rfl, -⟩ := cM_eq hc (by omega) e
    have e8 : wk 11 X Y = if X = Y then nI 1 else nI 0 := rfl
    rw [e8] at k
    refine ⟨fun h1 => ?_, fun h1 => ?_⟩
    · rw [if_neg h1] at k
      exact k
    · rw [if_pos (Classical.not_not.mp h1)] at k
      exact k
  · have := cM_eq hc (by omega) e
    omega
  · obtain ⟨rfl, -⟩ := cM_eq hc (by omega) e
    exact k
  · have h12 : c = 12 := by
      by_cases h : c = 12
      · exact h
      · exfalso
        have e1 : cM c = c := by
          unfold cM
          rw [if_neg h, if_neg (by omega)]
        rw [e1, nI_toInt (by omega)] at e
        omega
    subst h12
    exact k
theorem hlp_val {D : Int32} {c v : Nat} {w h p : Nat → Nat} {sd : Nat} {S : ZSt} {K : Int32 → Prop} (hE : jEM S w h p sd) (hc : c ≤ 4) (hv : vok c v) (hD : D = nI v) (P : Prop) (hP : P) (k : K (vl w h p sd c v)) :
    ((¬ nI c = 0 → ((¬ nI c = (nI 1) → ((¬ nI c = (nI 2) → ((¬ nI c = (nI 3) → (P ∧ K (zI S 130 32))) ∧ (¬ (¬ nI c = (nI 3)) → (vp_in D 24 ∧ (P ∧ K (zI S 147 (D.toNatClampNeg))))))) ∧ (¬ (¬ nI c = (nI 2)) → (vp_in D 12 ∧ (P ∧ K (zI S 146 (D.toNatClampNeg))))))) ∧ (¬ (¬ nI c = (nI 1)) → (vp_in D 12 ∧ (P ∧ K (zI S 145 (D.toNatClampNeg))))))) ∧ (¬ (¬ nI c = 0) → (P ∧ K D))) := by
  subst hD
  obtain ⟨e1, e2, e3, e4⟩ := hE
  obtain ⟨v1, v2, v3⟩ := hv
  have hcl : (nI v).toNatClampNeg = v := zcl9 (by omega)
  rw [hcl]
  refine ⟨fun h0 => ⟨fun h1 => ⟨fun h2 => ⟨fun h3 => ?_, fun h3 => ?_⟩, fun h2 => ?_⟩, fun h1 => ?_⟩, fun h0 => ?_⟩
  · have : c = 4 := by
      rcases (show c = 0 ∨ c = 1 ∨ c = 2 ∨ c = 3 ∨ c = 4 by omega) with rfl | rfl | rfl | rfl | rfl
      · exact absurd nI_0 h0
      · exact absurd rfl h1
      · exact absurd rfl h2
      · exact absurd rfl h3
      · rfl
    subst this
    rw [e4]
    exact ⟨hP, k⟩
  · obtain rfl : c = 3 := nEq (by omega) (by omega) (Classical.not_not.mp h3)
    have hb := v3 (by omega)
    rw [(e3 v hb).1]
    exact ⟨zin hb (by omega), hP, k⟩
  · obtain rfl : c = 2 := nEq (by omega) (by omega) (Classical.not_not.mp h2)
    have hb := v2 (by omega)
    rw [(e2 v hb).1]
    exact ⟨zin hb (by omega), hP, k⟩
  · obtain rfl : c = 1 := nEq (by omega) (by omega) (Classical.not_not.mp h1)
    have hb := v2 (by omega)
    rw [(e1 v hb).1]
    exact ⟨zin hb (by omega), hP, k⟩
  · obtain rfl : c = 0 := (nI_z (by omega)).mp (Classical.not_not.mp h0)
    exact ⟨hP, k⟩
theorem cM_lo {c : Nat} (h : c ≤ 4) : cM c = c := by
  unfold cM
  rw [if_neg (by omega), if_neg (by omega)]
theorem cM_hi {c : Nat} (h : 5 ≤ c) (h2 : c ≤ 14) : 4 < cM c ∧ cM c ≤ 14 := by
  unfold cM
  split
  · omega
  · split <;> omega
theorem w_M_worked_4 {w h p : Nat → Nat} {sd to : Nat} {x1 : Int32} (hN : to ≤ 2500) : ∀ (l : List (Nat × Nat)) (i : Nat) (st : List Int32) {u5 u6 u7 u8 u9 : Option Value} {S : ZSt} {Q : ZOut → ZSt → Prop}, zSh S → patM (zI S 140) (zI S 141) i l → i + l.length = to → st.length ≤ 32 → wfE l st.length → stk (zI S 144) st → jEM S w h p sd → (∀ S', zJ [144] S S' → Q (.inl (some (.int ((runC (vl w h p sd) l st).headD 0)))) S') →
    zW 1 m_M_worked 4 [some (.ref 130), some (.int x1), some (.int (nI to)), some (.int (nI st.length)), some (.int (nI i)), u5, u6, u7, u8, u9] [] S Q
  | [], i, st, u5, u6, u7, u8, u9, S, Q, hS, hp, hi, hs, hf, hk, hE, hQ => by
    have hi' : i = to := by simpa using hi
    match st, hf, hk, hQ with
    | [a], hf, hk, hQ =>
      refine b_M_worked_4 hS ⟨fun _ => ⟨zinl rfl, ?_⟩, fun h9 => absurd (nI_le (by omega) (by omega)) h9⟩
      rw [show zI S 144 0 = a from hk.1]
      exact hQ S zJ.rf
    | [], hf, hk, hQ => exact absurd (show (0 : Nat) = 1 from hf) (by omega)
    | a :: b :: s, hf, hk, hQ => exact absurd (show s.length + 1 + 1 = 1 from hf) (by omega)
  | (c, v) :: l, i, st, u5, u6, u7, u8, u9, S, Q, hS, hp, hi, hs, hf, hk, hE, hQ => by
    obtain ⟨pa, pb, pr⟩ := hp
    obtain ⟨hc14, hf⟩ := hf
    have hi' : i + (l.length + 1) = to := hi
    have aS : ∀ {S' : ZSt}, zJ [144] S S' → patM (zI S' 140) (zI S' 141) (i + 1) l ∧ jEM S' w h p sd := fun {S'} j => by
      refine ⟨?_, ?_⟩
      · rw [j.2 140 rfl, j.2 141 rfl]
        exact pr
      · unfold jEM
        rw [j.2 145 rfl, j.2 146 rfl, j.2 147 rfl, j.2 130 rfl]
        exact hE
    have hci : (nI i).toNatClampNeg = i := zcl9 (by omega)
    have via : vp_in (nI i) 2500 := zin (by omega) (by omega)
    refine b_M_worked_4 hS ⟨fun h9 => absurd h9 (nI_ge (by omega) (by omega)), fun _ => ⟨via, via, ?_⟩⟩
    rw [hci, pa, nI_add]
    by_cases h4 : c ≤ 4
    · rw [if_pos h4] at hf
      obtain ⟨g1, g2, g3⟩ := hf
      rw [runC_v h4] at hQ
      rw [cM_lo h4]
      refine ⟨fun h9 => absurd h9 (nI_nlt h4 (by omega)), fun _ => ?_⟩
      have j : zJ [144] S (zsI S 144 st.length (vl w h p sd c v)) := zJ.rf.I rfl
      obtain ⟨y4, y5⟩ := aS j
      rw [zcl9 (by omega), nI_add]
      exact hlp_val (K := fun x => zW 1 m_M_worked 4 [some (.ref 130), some (.int x1), some (.int (nI to)), some (.int (nI (st.length + 1))), some (.int (nI (i + 1))), some (.int (nI c)), some (.int (zI S 141 i)), u7, u8, u9] [] (zsI S 144 st.length x) Q) hE h4 g2 pb _ (zin (by omega) (by omega))
        (w_M_worked_4 hN l (i + 1) (vl w h p sd c v :: st) hS y4 (by omega) (by show st.length + 1 ≤ 32; omega) g3 (by rw [zI_eq]; exact stk_push hk) y5 (fun S' j' => hQ S' (j.tr j')))
    · rw [if_neg h4] at hf
      have hm := cM_hi (c := c) (by omega) hc14
      refine ⟨fun _ => ?_, fun h9 => absurd (nI_lt hm.1 (by omega)) h9⟩
      by_cases h14 : c < 14
      · rw [if_pos h14] at hf
        obtain ⟨g1, g2⟩ := hf
        refine ⟨fun _ => ?_, fun h9 => ?_⟩
        · match st, hs, g1, g2, hk, hQ with
          | b :: a :: s, hs, g1, g2, hk, hQ =>
            obtain ⟨k1, k2, k3⟩ := hk
            have hs' : s.length + 1 + 1 ≤ 32 := hs
            rw [runC_w h4 h14] at hQ
            have n1 : nI (b :: a :: s).length + - nI 1 = nI (s.length + 1) := nI_dn (by show 0 < s.length + 1 + 1; omega)
            have n2 : nI (s.length + 1) - nI 1 = nI s.length := zsub1 (by omega)
            have c1 : (nI s.length).toNatClampNeg = s.length := zcl9 (by omega)
            have c2 : (nI (s.length + 1)).toNatClampNeg = s.length + 1 := zcl9 (by omega)
            rw [n1, n2, c1, c2, k2, show zI S 144 (s.length + 1) = b from k1]
            have v1 : vp_in (nI s.length) 420 := zin (by omega) (by omega)
            refine ⟨v1, zin (by omega) (by omega), ?_⟩
            have j : zJ [144] S (zsI S 144 s.length (wk c a b)) := zJ.rf.I rfl
            obtain ⟨y4, y5⟩ := aS j
            exact hlp_bin (K := fun x => vp_in (nI s.length) 420 ∧ zW 1 m_M_worked 4 [some (.ref 130), some (.int x1), some (.int (nI to)), some (.int (nI (s.length + 1))), some (.int (nI (i + 1))), some (.int (nI (cM c))), some (.int (zI S 141 i)), some (.int a), some (.int b), some (.int x)] [] (zsI S 144 s.length x) Q) (by omega) rfl
              ⟨v1, w_M_worked_4 hN l (i + 1) (wk c a b :: s) hS y4 (by omega) (by show s.length + 1 ≤ 32; omega) g2 (by rw [zI_eq]; exact stk_push k3) y5 (fun S' j' => hQ S' (j.tr j'))⟩
          | [], hs, g1, g2, hk, hQ => exact absurd g1 (by show ¬ 2 ≤ 0; omega)
          | [x], hs, g1, g2, hk, hQ => exact absurd g1 (by show ¬ 2 ≤ 1; omega)
        · have := cM_eq (by omega) (by omega) (Classical.not_not.mp h9)
          omega
      · rw [if_neg h14] at hf
        obtain rfl : c = 14 := by omega
        obtain ⟨g1, g2⟩ := hf
        refine ⟨fun h9 => absurd rfl h9, fun _ => ?_⟩
        match st, hs, g1, g2, hk, hQ with
        | a :: s, hs, g1, g2, hk, hQ =>
          obtain ⟨k1, k2⟩ := hk
          have hs' : s.length + 1 ≤ 32 := hs
          rw [runC_n h4 h14] at hQ
          have n1 : nI (a :: s).length - nI 1 = nI s.length := zsub1 (by show 0 < s.length + 1; omega)
          rw [n1, zcl9 (by omega), k1]
          have v1 : vp_in (nI s.length) 420 := zin (by omega) (by omega)
          have j : zJ [144] S (zsI S 144 s.length (nI 1 - a)) := zJ.rf.I rfl
          obtain ⟨y4, y5⟩ := aS j
          exact ⟨v1, v1, w_M_worked_4 hN l (i + 1) ((nI 1 - a) :: s) hS y4 (by omega) hs g2 (by rw [zI_eq]; exact stk_push k2) y5 (fun S' j' => hQ S' (j.tr j'))⟩
        | [], hs, g1, g2, hk, hQ => exact absurd g1 (by show ¬ 1 ≤ 0; omega)
theorem w_M_worked {w h p : Nat → Nat} {sd i : Nat} {l : List (Nat × Nat)} (hN : i + l.length ≤ 2500) {S : ZSt} {Q : ZOut → ZSt → Prop} (hS : zSh S) (hp : patM (zI S 140) (zI S 141) i l) (hf : wfE l 0) (hE : jEM S w h p sd) (hQ : ∀ S', zJ [144] S S' → Q (.inl (some (.int (valC (vl w h p sd) l)))) S') : zC m_M_worked [.ref 130, .int (nI i), .int (nI (i + l.length))] S Q :=
  b_M_worked hS (w_M_worked_4 hN l i [] hS hp rfl (by show 0 ≤ 32; omega) hf trivial hE hQ)
/-- the reference's conditions from the k-th on, at f -/
def cdM (S : ZSt) (t : Nat) : Nat → Nat → List (List (Nat × Nat)) → Prop
  | k, f, [] => zI S 143 (13 * t + k) = nI f
  | k, f, c :: r => zI S 143 (13 * t + k) = nI f ∧ patM (zI S 140) (zI S 141) f c ∧ cdM S t (k + 1) (f + c.length) r
def totl : List (List (Nat × Nat)) → Nat
  | [] => 0
  | c :: r => c.length + totl r
theorem cdM_at {S : ZSt} {t k f : Nat} : ∀ {cs : List (List (Nat × Nat))}, cdM S t k f cs → zI S 143 (13 * t + k) = nI f
  | [], h => h
  | _ :: _, h => h.1
theorem cdM.cg {S S1 : ZSt} (e0 : zI S1 140 = zI S 140) (e1 : zI S1 141 = zI S 141) (e3 : zI S1 143 = zI S 143) {t : Nat} : ∀ {cs : List (List (Nat × Nat))} {k f : Nat}, cdM S t k f cs → cdM S1 t k f cs
  | [], k, f, h => by
    show zI S1 143 _ = _
    rw [e3]
    exact h
  | _ :: _, k, f, h => by
    refine ⟨?_, ?_, cdM.cg e0 e1 e3 h.2.2⟩
    · rw [e3]
      exact h.1
    · rw [e0, e1]
      exact h.2.1
theorem cdM.J {l : List Nat} {S S1 : ZSt} (j : zJ l S S1) (n0 : (zmem 140 l || (zmem 141 l || zmem 143 l)) = false) {t : Nat} {cs : List (List (Nat × Nat))} {k f : Nat} (h : cdM S t k f cs) : cdM S1 t k f cs := by
  obtain ⟨a, b⟩ := Bool.or_eq_false_iff.mp n0
  obtain ⟨b, c⟩ := Bool.or_eq_false_iff.mp b
  exact h.cg (j.2 140 a) (j.2 141 b) (j.2 143 c)
theorem jEM.J {l : List Nat} {S S1 : ZSt} (j : zJ l S S1) (n0 : (zmem 130 l || (zmem 145 l || (zmem 146 l || zmem 147 l))) = false) {w h p : Nat → Nat} {sd : Nat} (hE : jEM S w h p sd) : jEM S1 w h p sd := by
  obtain ⟨a, b⟩ := Bool.or_eq_false_iff.mp n0
  obtain ⟨b, c⟩ := Bool.or_eq_false_iff.mp b
  obtain ⟨c, d⟩ := Bool.or_eq_false_iff.mp c
  unfold jEM
  rw [j.2 130 a, j.2 145 b, j.2 146 c, j.2 147 d]
  exact hE
theorem zBo_1 : zBo true = nI 1 := rfl
theorem zBo_0 : zBo false = nI 0 := rfl
theorem w_M_allSo_2 {w h p : Nat → Nat} {sd t N : Nat} (ht : t < 6) (hN : N ≤ 12) : ∀ (cs : List (List (Nat × Nat))) (k f : Nat) {S : ZSt} {Q : ZOut → ZSt → Prop}, zSh S → zI S 142 t = nI N → k + cs.length = N → cdM S t k f cs → f + totl cs ≤ 2500 → (∀ c ∈ cs, wfE c 0) → jEM S w h p sd → (∀ S', zJ [144] S S' → Q (.inl (some (.int (zBo (tru (vl w h p sd) cs))))) S') → zW 2 m_M_allSo 2 [some (.ref 130), some (.int (nI t)), some (.int (nI k))] [] S Q
  | [], k, f, S, Q, hS, h2, hk, hc, hb, hf, hE, hQ => by
    have hk' : k = N := by simpa using hk
    refine b_M_allSo_2 hS ⟨zin ht (by omega), ?_⟩
    rw [zcl9 (by omega), h2]
    exact ⟨fun _ => ⟨rfl, hQ S zJ.rf⟩, fun h9 => absurd (nI_le (by omega) (by omega)) h9⟩
  | c :: cs, k, f, S, Q, hS, h2, hk, hc, hb, hf, hE, hQ => by
    have hk' : k + (cs.length + 1) = N := hk
    have hb' : f + (c.length + totl cs) ≤ 2500 := hb
    obtain ⟨c1, c2, c3⟩ := hc
    refine b_M_allSo_2 hS ⟨zin ht (by omega), ?_⟩
    rw [zcl9 (by omega), h2]
    refine ⟨fun h9 => absurd h9 (nI_ge (by omega) (by omega)), fun _ => ?_⟩
    rw [pk_mul, nI_add, nI_add, zcl9 (by omega), zcl9 (by omega), c1, show zI S 143 (13 * t + k + 1) = nI (f + c.length) from cdM_at c3]
    refine ⟨zin (by omega) (by omega), zin (by omega) (by omega), w_M_worked (by omega) hS c2 (hf c (List.mem_cons_self ..)) hE (fun S1 j1 => b_M_allSo_28 (j1.sh hS) ⟨fun h9 => ?_, fun h9 => ⟨rfl, ?_⟩⟩)⟩
    · have e : tru (vl w h p sd) (c :: cs) = tru (vl w h p sd) cs := if_neg h9
      rw [e] at hQ
      rw [nI_add]
      exact w_M_allSo_2 ht hN cs (k + 1) (f + c.length) (j1.sh hS) (by rw [j1.2 142 rfl]; exact h2) (by omega) (c3.J j1 rfl) (by omega) (fun c hc => hf c (List.mem_cons_of_mem _ hc)) (hE.J j1 rfl) (fun S' j' => hQ S' (j1.tr j'))
    · have e : tru (vl w h p sd) (c :: cs) = false := if_pos (Classical.not_not.mp h9)
      rw [e] at hQ
      exact hQ S1 j1
/-- the reference's task of the number t -/
def jTM (S : ZSt) (t : Nat) (cs : List (List (Nat × Nat))) : Prop := zI S 142 t = nI cs.length ∧ ∃ f, cdM S t 0 f cs ∧ f + totl cs ≤ 2500
def wfT (cs : List (List (Nat × Nat))) : Prop := cs.length ≤ 12 ∧ (flat cs).length ≤ 400 ∧ ∀ c ∈ cs, wfE c 0
theorem jTM.J {l : List Nat} {S S1 : ZSt} (j : zJ l S S1) (n0 : (zmem 140 l || (zmem 141 l || zmem 143 l)) = false) (n1 : zmem 142 l = false) {t : Nat} {cs : List (List (Nat × Nat))} (h : jTM S t cs) : jTM S1 t cs := by
  obtain ⟨h1, f, h2, h3⟩ := h
  exact ⟨by rw [j.2 142 n1]; exact h1, f, h2.J j n0, h3⟩
theorem w_M_allSo {w h p : Nat → Nat} {sd t : Nat} {cs : List (List (Nat × Nat))} (ht : t < 6) (hf : wfT cs) {S : ZSt} {Q : ZOut → ZSt → Prop} (hS : zSh S) (hT : jTM S t cs) (hE : jEM S w h p sd) (hQ : ∀ S', zJ [144] S S' → Q (.inl (some (.int (zBo (tru (vl w h p sd) cs))))) S') : zC m_M_allSo [.ref 130, .int (nI t)] S Q := by
  obtain ⟨h1, f, h2, h3⟩ := hT
  exact b_M_allSo hS (w_M_allSo_2 ht hf.1 cs 0 f hS h1 (by omega) h2 h3 hf.2.2 hE hQ)
/-- whether a run did a task -/
def met (w : Nat → Nat) (r : (Nat → Nat) × (Nat → Nat) × Nat × Nat × Nat × Nat) (cs : List (List (Nat × Nat))) : Bool := decide (r.2.2.2.2.1 ≤ 1) && tru (vl w r.1 r.2.1 r.2.2.2.2.2) cs
theorem w_M_isDone {w : Nat → Nat} {r : (Nat → Nat) × (Nat → Nat) × Nat × Nat × Nat × Nat} {t : Nat} {cs : List (List (Nat × Nat))} (ht : t < 6) (hf : wfT cs) {S : ZSt} {Q : ZOut → ZSt → Prop} (hS : zSh S) (hT : jTM S t cs) (hw : jN (zI S 145) 12 1000000000 w) (hr : jQ S r) (he : r.2.2.2.2.1 ≤ 3) (hQ : ∀ S', zJ [144] S S' → Q (.inl (some (.int (zBo (met w r cs))))) S') : zC m_M_isDone [.ref 130, .int (nI t)] S Q := by
  obtain ⟨r1, r2, r3, r4, r5, r6⟩ := hr
  refine b_M_isDone hS ?_
  rw [r5]
  refine ⟨fun h9 => ⟨rfl, ?_⟩, fun h9 => w_M_allSo (w := w) (h := r.1) (p := r.2.1) (sd := r.2.2.2.2.2) ht hf hS hT ⟨hw, r1, r2, r6⟩ (fun S1 j1 => b_M_isDone_7 (j1.sh hS) ⟨fun h8 => ⟨rfl, ?_⟩, fun h8 => ⟨rfl, ?_⟩⟩)⟩
  · have e : met w r cs = false := by
      unfold met
      rw [decide_eq_false (fun h => absurd h9 (nI_nlt h (by omega)))]
      rfl
    rw [e] at hQ
    exact hQ S zJ.rf
  · have e : met w r cs = tru (vl w r.1 r.2.1 r.2.2.2.2.2) cs := by
      unfold met
      rw [decide_eq_true (Nat.not_lt.mp (fun h => h9 (nI_lt h (by omega))))]
      rfl
    rw [e] at hQ
    cases hb : tru (vl w r.1 r.2.1 r.2.2.2.2.2) cs with
    | false =>
      rw [hb] at hQ
      exact hQ S1 j1
    | true =>
      rw [hb] at h8
      exact absurd h8 (by decide)
  · have e : met w r cs = tru (vl w r.1 r.2.1 r.2.2.2.2.2) cs := by
      unfold met
      rw [decide_eq_true (Nat.not_lt.mp (fun h => h9 (nI_lt h (by omega))))]
      rfl
    rw [e] at hQ
    cases hb : tru (vl w r.1 r.2.1 r.2.2.2.2.2) cs with
    | false =>
      rw [hb] at h8
      exact absurd (by decide) h8
    | true =>
      rw [hb] at hQ
      exact hQ S1 j1
/-- the object's side -/
theorem w_Tk_isMetBy {o2 ra rb rs : Nat} {w : Nat → Nat} {r : (Nat → Nat) × (Nat → Nat) × Nat × Nat × Nat × Nat} {cs : List (List (Nat × Nat))} (hf : wfT cs) (h1 : rs ≠ ra) (h2 : rs ≠ rb) (h3 : zNo [106, 107, 108, 109] rs) {S : ZSt} {Q : ZOut → ZSt → Prop} (hS : zSh S) (ht : jTO S o2 ra rb rs (flat cs)) (hw : jN (zI S 107) 12 1000000000 w) (hr : jR S r) (he : r.2.2.2.2.1 ≤ 3) (hQ : ∀ S', zJ [rs] S S' → Q (.inl (some (.int (zBo (met w r cs))))) S') : zC m_Tk_isMetBy [.ref o2, .ref 106] S Q := by
  obtain ⟨r1, r2, r3, r4, r5, r6⟩ := hr
  have key : r.2.2.2.2.1 ≤ 1 → zC m_Tk_isTrueOf [.ref o2, .ref 106] S (zback m_Tk_isMetBy 17 9 [some (.ref o2), some (.ref 106)] [] (fun i1 l1 s1 S1 => zW 4 m_Tk_isMetBy i1 l1 s1 S1 Q) (fun x S1 => Q (.inr x) S1)) := fun h9 => by
    refine w_Tk_isTrueOf (w := w) (h := r.1) (p := r.2.1) (sd := r.2.2.2.2.2) hf.2.1 h1 h2 h3 hS ht (wfC_flat cs hf.2.2) ⟨hw, r1, r2, r6⟩ (fun S1 j1 => ?_)
    rw [evC_flat cs hf.2.2]
    have e : met w r cs = tru (vl w r.1 r.2.1 r.2.2.2.2.2) cs := by
      unfold met
      rw [decide_eq_true h9]
      rfl
    rw [e] at hQ
    refine b_Tk_isMetBy_10 (j1.sh hS) ⟨fun h8 => ⟨rfl, ?_⟩, fun h8 => ⟨rfl, ?_⟩⟩
    · cases hb : tru (vl w r.1 r.2.1 r.2.2.2.2.2) cs with
      | false =>
        rw [hb] at hQ
        exact hQ S1 j1
      | true =>
        rw [hb] at h8
        exact absurd h8 (by decide)
    · cases hb : tru (vl w r.1 r.2.1 r.2.2.2.2.2) cs with
      | false =>
        rw [hb] at h8
        exact absurd (by decide) h8
      | true =>
        rw [hb] at hQ
        exact hQ S1 j1
  refine b_Tk_isMetBy hS ?_
  rw [r5]
  refine ⟨fun h9 => ⟨ht.1, key (by rw [nI_z (by omega)] at h9; omega)⟩, fun h9 => ⟨fun h8 => ⟨rfl, ?_⟩, fun h8 => ⟨ht.1, key (by have := nEq (by omega) (by omega) (Classical.not_not.mp h8); omega)⟩⟩⟩
  have e : met w r cs = false := by
    unfold met
    rw [decide_eq_false (fun h => by
      rcases (show r.2.2.2.2.1 = 0 ∨ r.2.2.2.2.1 = 1 by omega) with h7 | h7
      · exact h9 (by rw [h7]; rfl)
      · exact h8 (by rw [h7]))]
    rfl
  rw [e] at hQ
  exact hQ S zJ.rf
