/-! Tasks: the object's side -/
def vl (w h p : Nat → Nat) (sd c v : Nat) : Int32 := if c = 0 then nI v else if c = 1 then nI (w v) else if c = 2 then nI (h v) else if c = 3 then nI (p v) else nI sd
def wk (c : Nat) (a b : Int32) : Int32 := if c = 5 then a + b else if c = 6 then a - b else if c = 7 then a * b else if c = 8 then (if b = 0 then nI 0 else a / b) else if c = 9 then (if b ≤ a then nI 0 else nI 1) else if c = 10 then (if a ≤ b then nI 0 else nI 1) else if c = 11 then (if a = b then nI 1 else nI 0) else if c = 13 then a &&& b else a ||| b
def vok (c v : Nat) : Prop := v ≤ 9999 ∧ (c = 1 ∨ c = 2 → v < 12) ∧ (c = 3 → v < 24)
def evC (V : Nat → Nat → Int32) : List (Nat × Nat) → List Int32 → Bool
  | [], _ => true
  | (c, v) :: r, st => if c ≤ 4 then evC V r (V c v :: st) else if c < 14 then (match st with
    | b :: a :: s => evC V r (wk c a b :: s)
    | _ => false) else if c = 14 then (match st with
    | a :: s => evC V r ((nI 1 - a) :: s)
    | _ => false) else (match st with
    | a :: s => if a = 0 then false else evC V r s
    | _ => false)
theorem evC_v {V : Nat → Nat → Int32} {c v : Nat} {l : List (Nat × Nat)} {st : List Int32} (h4 : c ≤ 4) : evC V ((c, v) :: l) st = evC V l (V c v :: st) := if_pos h4
theorem evC_w {V : Nat → Nat → Int32} {c v : Nat} {l : List (Nat × Nat)} {a b : Int32} {s : List Int32} (h4 : ¬ c ≤ 4) (h14 : c < 14) : evC V ((c, v) :: l) (b :: a :: s) = evC V l (wk c a b :: s) := (if_neg h4).trans (if_pos h14)
theorem evC_n {V : Nat → Nat → Int32} {c v : Nat} {l : List (Nat × Nat)} {a : Int32} {s : List Int32} (h4 : ¬ c ≤ 4) (h14 : ¬ c < 14) (e : c = 14) : evC V ((c, v) :: l) (a :: s) = evC V l ((nI 1 - a) :: s) := (if_neg h4).trans ((if_neg h14).trans (if_pos e))
theorem evC_m {V : Nat → Nat → Int32} {c v : Nat} {l : List (Nat × Nat)} {a : Int32} {s : List Int32} (h4 : ¬ c ≤ 4) (h14 : ¬ c < 14) (e : c ≠ 14) : evC V ((c, v) :: l) (a :: s) = if a = 0 then false else evC V l s := (if_neg h4).trans ((if_neg h14).trans (if_neg e))
def wfC : List (Nat × Nat) → Nat → Prop
  | [], _ => True
  | (c, v) :: r, d => c ≤ 15 ∧ (if c ≤ 4 then d < 32 ∧ vok c v ∧ wfC r (d + 1) else if c < 14 then 2 ≤ d ∧ wfC r (d - 1) else if c = 14 then 1 ≤ d ∧ wfC r d else 1 ≤ d ∧ wfC r (d - 1))
def pat (fa fb : Nat → Int32) : Nat → List (Nat × Nat) → Prop
  | _, [] => True
  | i, (c, v) :: r => fa i = nI c ∧ fb i = nI v ∧ pat fa fb (i + 1) r
def stk (f : Nat → Int32) : List Int32 → Prop
  | [] => True
  | a :: s => f s.length = a ∧ stk f s
theorem stk_upd {f : Nat → Int32} {i : Nat} {v : Int32} : ∀ {s : List Int32}, s.length ≤ i → stk f s → stk (upd f i v) s
  | [], _, _ => trivial
  | a :: s, hi, h => by
    have hi' : s.length + 1 ≤ i := hi
    exact ⟨by rw [upd_ne (by omega)]; exact h.1, stk_upd (by omega) h.2⟩
theorem stk_push {f : Nat → Int32} {v : Int32} {s : List Int32} (h : stk f s) : stk (upd f s.length v) (v :: s) := ⟨upd_self, stk_upd (Nat.le_refl _) h⟩
/-- what a task may look at -/
def jE (S : ZSt) (w h p : Nat → Nat) (sd : Nat) : Prop := jN (zI S 107) 12 1000000000 w ∧ jN (zI S 108) 12 1000000000 h ∧ jN (zI S 109) 24 3 p ∧ zI S 106 6 = nI sd
theorem w_Tk_valueOf {w h p : Nat → Nat} {sd c v : Nat} {S : ZSt} {Q : ZOut → ZSt → Prop} (hS : zSh S) (hE : jE S w h p sd) (hc : c ≤ 4) (hv : vok c v) (hQ : Q (.inl (some (.int (vl w h p sd c v)))) S) : zC m_Tk_valueOf [.int (nI c), .int (nI v), .ref 106] S Q := by
  obtain ⟨e1, e2, e3, e4⟩ := hE
  obtain ⟨v1, v2, v3⟩ := hv
  have hcl : (nI v).toNatClampNeg = v := zcl9 (by omega)
  refine b_Tk_valueOf hS ⟨⟨fun e => ?_, fun e => ?_, fun e => ?_, fun e => ?_, trivial⟩, fun e => ?_⟩
  · obtain rfl : c = 1 := nEq (by omega) (by omega) e
    have hb := v2 (by omega)
    refine w_N_isNot0 hS (nI_nlt (by omega) (by omega)) (nI_le (by omega) (by omega)) (b_Tk_valueOf_6 hS ⟨fun _ => ⟨zin hb (by omega), ?_⟩, fun h9 => absurd (by decide) h9⟩)
    rw [hcl, (e1 v hb).1]
    exact hQ
  · obtain rfl : c = 2 := nEq (by omega) (by omega) e
    have hb := v2 (by omega)
    refine w_N_isNot0 hS (nI_nlt (by omega) (by omega)) (nI_le (by omega) (by omega)) (b_Tk_valueOf_18 hS ⟨fun _ => ⟨zin hb (by omega), ?_⟩, fun h9 => absurd (by decide) h9⟩)
    rw [hcl, (e2 v hb).1]
    exact hQ
  · obtain rfl : c = 3 := nEq (by omega) (by omega) e
    have hb := v3 (by omega)
    refine w_N_isNot0 hS (nI_nlt (by omega) (by omega)) (nI_le (by omega) (by omega)) (b_Tk_valueOf_30 hS ⟨fun _ => ⟨zin hb (by omega), ?_⟩, fun h9 => absurd (by decide) h9⟩)
    rw [hcl, (e3 v hb).1]
    exact hQ
  · obtain rfl : c = 4 := nEq (by omega) (by omega) e
    rw [e4]
    exact hQ
  · rw [nI_toInt (by omega)] at e
    obtain rfl : c = 0 := by omega
    exact hQ
theorem w_Tk_worked {c : Nat} {a b : Int32} {S : ZSt} {Q : ZOut → ZSt → Prop} (hS : zSh S) (hc : 5 ≤ c ∧ c ≤ 13) (hQ : Q (.inl (some (.int (wk c a b)))) S) : zC m_Tk_worked [.int (nI c), .int a, .int b] S Q := by
  refine b_Tk_worked hS ⟨⟨fun e => ?_, fun e => ?_, fun e => ?_, fun e => ?_, fun e => ?_, fun e => ?_, fun e => ?_, fun e => ?_, fun e => ?_, trivial⟩, fun e => ?_⟩
  · obtain rfl : c = 5 := nEq (by omega) (by omega) e
    exact hQ
  · obtain rfl : c = 6 := nEq (by omega) (by omega) e
    exact hQ
  · obtain rfl : c = 7 := nEq (by omega) (by omega) e
    exact hQ
  · obtain rfl : c = 8 := nEq (by omega) (by omega) e
    have e8 : wk 8 a b = if b = 0 then nI 0 else a / b := rfl
    rw [e8] at hQ
    refine ⟨fun h1 => ⟨h1, ?_⟩, fun h1 => ?_⟩
    · rw [if_neg h1] at hQ
      exact hQ
    · rw [if_pos (Classical.not_not.mp h1)] at hQ
      exact hQ
  · obtain rfl : c = 9 := nEq (by omega) (by omega) e
    have e8 : wk 9 a b = if b ≤ a then nI 0 else nI 1 := rfl
    rw [e8] at hQ
    refine ⟨fun h1 => ?_, fun h1 => ?_⟩
    · rw [if_pos h1] at hQ
      exact hQ
    · rw [if_neg h1] at hQ
      exact hQ
  · obtain rfl : c = 10 := nEq (by omega) (by omega) e
    have e8 : wk 10 a b = if a ≤ b then nI 0 else nI 1 := rfl
    rw [e8] at hQ
    refine ⟨fun h1 => ?_, fun h1 => ?_⟩
    · rw [if_pos h1] at hQ
      exact hQ
    · rw [if_neg h1] at hQ
      exact hQ
  · obtain rfl : c = 11 := nEq (by omega) (by omega) e
    have e8 : wk 11 a b = if a = b then nI 1 else nI 0 := rfl
    rw [e8] at hQ
    refine ⟨fun h1 => ?_, fun h1 => ?_⟩
    · rw [if_neg h1] at hQ
      exact hQ
    · rw [if_pos (Classical.not_not.mp h1)] at hQ
      exact hQ
  · obtain rfl : c = 12 := nEq (by omega) (by omega) e
    exact hQ
  · obtain rfl : c = 13 := nEq (by omega) (by omega) e
    exact hQ
  · rw [nI_toInt (by omega)] at e
    omega
def zBo (b : Bool) : Int32 := if b = true then nI 1 else nI 0
/-- the object's task at o2 -/
def jTO (S : ZSt) (o2 ra rb rs : Nat) (l : List (Nat × Nat)) : Prop := zc S o2 = 5 ∧ (zR S o2 0 = some ra ∧ zR S o2 1 = some rb ∧ zR S o2 2 = some rs) ∧ (zArr S ra l.length ∧ zArr S rb l.length ∧ zArr S rs 32) ∧ pat (zI S ra) (zI S rb) 0 l
theorem w_Tk_isTrueOf_4 {o2 ra rb rs N : Nat} {w h p : Nat → Nat} {sd : Nat} (hN : N ≤ 400) (h1 : rs ≠ ra) (h2 : rs ≠ rb) (h3 : zNo [106, 107, 108, 109] rs) : ∀ (l : List (Nat × Nat)) (i : Nat) (st : List Int32) {u4 : Option Value} {S : ZSt} {Q : ZOut → ZSt → Prop}, zSh S → zc S o2 = 5 → (zR S o2 0 = some ra ∧ zR S o2 1 = some rb ∧ zR S o2 2 = some rs) → (zArr S ra N ∧ zArr S rb N ∧ zArr S rs 32) → pat (zI S ra) (zI S rb) i l → i + l.length = N → st.length ≤ 32 → wfC l st.length → stk (zI S rs) st → jE S w h p sd → (∀ S', zJ [rs] S S' → Q (.inl (some (.int (zBo (evC (vl w h p sd) l st))))) S') →
    zW 3 m_Tk_isTrueOf 4 [some (.ref o2), some (.ref 106), some (.int (nI st.length)), some (.int (nI i)), u4] [] S Q
  | [], i, st, u4, S, Q, hS, co, ⟨r0, r1, r2⟩, ⟨⟨ca, na⟩, ⟨cb, nb⟩, ⟨cs, ns⟩⟩, hp, hi, hs, hf, hk, hE, hQ => by
    have hi' : i = N := by simpa using hi
    refine b_Tk_isTrueOf_4 hS ⟨co, ra, r0, ca, ?_⟩
    rw [na, hi']
    exact ⟨fun _ => ⟨rfl, hQ S zJ.rf⟩, fun h9 => absurd (nI_le (Nat.le_refl _) (by omega)) h9⟩
  | (c, v) :: l, i, st, u4, S, Q, hS, co, ⟨r0, r1, r2⟩, ⟨⟨ca, na⟩, ⟨cb, nb⟩, ⟨cs, ns⟩⟩, hp, hi, hs, hf, hk, hE, hQ => by
    obtain ⟨pa, pb, pr⟩ := hp
    obtain ⟨hc15, hf⟩ := hf
    have hi' : i + (l.length + 1) = N := hi
    have aS : ∀ {S' : ZSt}, zJ [rs] S S' → (zArr S' ra N ∧ zArr S' rb N ∧ zArr S' rs 32) ∧ zc S' o2 = 5 ∧ (zR S' o2 0 = some ra ∧ zR S' o2 1 = some rb ∧ zR S' o2 2 = some rs) ∧ pat (zI S' ra) (zI S' rb) (i + 1) l ∧ jE S' w h p sd := fun {S'} j => by
      refine ⟨?_, ?_, ?_, ?_, ?_⟩
      · unfold zArr zc zn
        rw [j.1]
        exact ⟨⟨ca, na⟩, ⟨cb, nb⟩, ⟨cs, ns⟩⟩
      · unfold zc
        rw [j.1]
        exact co
      · unfold zR
        rw [j.1]
        exact ⟨r0, r1, r2⟩
      · rw [j.2 ra (zmemC (Ne.symm h1) rfl), j.2 rb (zmemC (Ne.symm h2) rfl)]
        exact pr
      · obtain ⟨m1, m⟩ := zmemN h3
        obtain ⟨m2, m⟩ := zmemN m
        obtain ⟨m3, m⟩ := zmemN m
        obtain ⟨m4, m⟩ := zmemN m
        unfold jE
        rw [j.2 106 (zmemC (Ne.symm m1) rfl), j.2 107 (zmemC (Ne.symm m2) rfl), j.2 108 (zmemC (Ne.symm m3) rfl), j.2 109 (zmemC (Ne.symm m4) rfl)]
        exact hE
    have hci : (nI i).toNatClampNeg = i := zcl9 (by omega)
    have via : vp_in (nI i) N := zin (by omega) (by omega)
    refine b_Tk_isTrueOf_4 hS ⟨co, ra, r0, ca, ?_⟩
    rw [na]
    refine ⟨fun h9 => absurd h9 (nI_ge (by omega) (by omega)), fun _ => ⟨co, rb, r1, cb, ?_⟩⟩
    rw [nb]
    refine ⟨fun h9 => absurd h9 (nI_ge (by omega) (by omega)), fun _ => ⟨co, ra, r0, ca, by rw [na]; exact via, ?_⟩⟩
    rw [hci, pa]
    by_cases h4 : c ≤ 4
    · rw [if_pos h4] at hf
      obtain ⟨g1, g2, g3⟩ := hf
      have ev : evC (vl w h p sd) ((c, v) :: l) st = evC (vl w h p sd) l (vl w h p sd c v :: st) := by
        exact evC_v h4
      rw [ev] at hQ
      refine ⟨fun h9 => absurd h9 (nI_nlt h4 (by omega)), fun _ => ⟨fun _ => ⟨co, rs, r2, co, rb, r1, cb, by rw [nb]; exact via, ?_⟩, fun h9 => absurd (nI_lt g1 (by omega)) h9⟩⟩
      rw [pb]
      refine w_Tk_valueOf hS hE h4 g2 (b_Tk_isTrueOf_37 hS ⟨cs, by rw [ns]; exact zin g1 (by omega), ?_⟩)
      rw [zcl9 (by omega), nI_add, nI_add]
      have j : zJ [rs] S (zsI S rs st.length (vl w h p sd c v)) := zJ.rf.I (by show (Nat.beq rs rs || false) = true; rw [Nat.beq_refl]; rfl)
      obtain ⟨y1, y2, y3, y4, y5⟩ := aS j
      exact w_Tk_isTrueOf_4 hN h1 h2 h3 l (i + 1) (vl w h p sd c v :: st) hS y2 y3 y1 y4 (by omega) (by show st.length + 1 ≤ 32; omega) g3 (by rw [zI_eq]; exact stk_push hk) y5 (fun S' j' => hQ S' (j.tr j'))
    · rw [if_neg h4] at hf
      refine ⟨fun _ => ?_, fun h9 => absurd (nI_lt (by omega) (by omega)) h9⟩
      by_cases h14 : c < 14
      · rw [if_pos h14] at hf
        obtain ⟨g1, g2⟩ := hf
        refine ⟨fun h9 => absurd h9 (nI_ge (by omega) (by omega)), fun _ => ⟨fun _ => ?_, fun h9 => absurd (nI_le g1 (by omega)) h9⟩⟩
        match st, hs, g1, g2, hk, hQ with
        | b :: a :: s, hs, g1, g2, hk, hQ =>
          obtain ⟨k1, k2, k3⟩ := hk
          have hs' : s.length + 1 + 1 ≤ 32 := hs
          have ev : evC (vl w h p sd) ((c, v) :: l) (b :: a :: s) = evC (vl w h p sd) l (wk c a b :: s) := by
            exact evC_w h4 h14
          rw [ev] at hQ
          have n1 : nI (b :: a :: s).length + - nI 1 = nI (s.length + 1) := nI_dn (by show 0 < s.length + 1 + 1; omega)
          have n2 : nI (s.length + 1) - nI 1 = nI s.length := zsub1 (by omega)
          rw [n1, n2]
          refine ⟨co, rs, r2, co, rs, r2, cs, by rw [ns]; exact zin (by omega) (by omega), co, rs, r2, cs, by rw [ns]; exact zin (by omega) (by omega), ?_⟩
          rw [zcl9 (by omega), zcl9 (by omega), k2, show zI S rs (s.length + 1) = b from k1]
          refine w_Tk_worked hS (by omega) (b_Tk_isTrueOf_66 hS ⟨cs, by rw [ns]; exact zin (by omega) (by omega), ?_⟩)
          rw [zcl9 (by omega), nI_add]
          have j : zJ [rs] S (zsI S rs s.length (wk c a b)) := zJ.rf.I (by show (Nat.beq rs rs || false) = true; rw [Nat.beq_refl]; rfl)
          obtain ⟨y1, y2, y3, y4, y5⟩ := aS j
          exact w_Tk_isTrueOf_4 hN h1 h2 h3 l (i + 1) (wk c a b :: s) hS y2 y3 y1 y4 (by omega) (by show s.length + 1 ≤ 32; omega) g2 (by rw [zI_eq]; exact stk_push k3) y5 (fun S' j' => hQ S' (j.tr j'))
        | [], hs, g1, g2, hk, hQ => exact absurd g1 (by show ¬ 2 ≤ 0; omega)
        | [x], hs, g1, g2, hk, hQ => exact absurd g1 (by show ¬ 2 ≤ 1; omega)
      · rw [if_neg h14] at hf
        refine ⟨fun _ => ?_, fun h9 => absurd (nI_le (by omega) (by omega)) h9⟩
        have g1 : 1 ≤ st.length := by
          by_cases e : c = 14
          · rw [if_pos e] at hf
            exact hf.1
          · rw [if_neg e] at hf
            exact hf.1
        refine ⟨fun _ => ?_, fun h9 => absurd (nI_le g1 (by omega)) h9⟩
        match st, hs, g1, hf, hk, hQ with
        | [], hs, g1, hf, hk, hQ => exact absurd g1 (by show ¬ 1 ≤ 0; omega)
        | a :: s, hs, g1, hf, hk, hQ =>
          obtain ⟨k1, k2⟩ := hk
          have hs' : s.length + 1 ≤ 32 := hs
          have n1 : nI (a :: s).length + - nI 1 = nI s.length := nI_dn (by show 0 < s.length + 1; omega)
          have n2 : nI (a :: s).length - nI 1 = nI s.length := zsub1 (by show 0 < s.length + 1; omega)
          rw [n1, n2]
          refine ⟨fun h9 => ⟨co, rs, r2, cs, by rw [ns]; exact zin (by omega) (by omega), ?_⟩, fun h9 => ⟨co, rs, r2, co, rs, r2, cs, by rw [ns]; exact zin (by omega) (by omega), cs, by rw [ns]; exact zin (by omega) (by omega), ?_⟩⟩
          · have e : c ≠ 14 := fun e => h9 (by rw [e])
            rw [if_neg e] at hf
            have ev : evC (vl w h p sd) ((c, v) :: l) (a :: s) = if a = 0 then false else evC (vl w h p sd) l s := by
              exact evC_m h4 h14 e
            rw [ev] at hQ
            rw [zcl9 (by omega), k1, nI_add]
            refine ⟨fun h8 => ?_, fun h8 => ⟨rfl, ?_⟩⟩
            · rw [if_neg h8] at hQ
              obtain ⟨y1, y2, y3, y4, y5⟩ := aS (S' := S) zJ.rf
              exact w_Tk_isTrueOf_4 hN h1 h2 h3 l (i + 1) s hS y2 y3 y1 y4 (by omega) (by omega) hf.2 k2 y5 hQ
            · rw [if_pos (Classical.not_not.mp h8)] at hQ
              exact hQ S zJ.rf
          · have e : c = 14 := nEq (by omega) (by omega) (Classical.not_not.mp h9)
            rw [if_pos e] at hf
            have ev : evC (vl w h p sd) ((c, v) :: l) (a :: s) = evC (vl w h p sd) l ((nI 1 - a) :: s) := by
              exact evC_n h4 h14 e
            rw [ev] at hQ
            rw [zcl9 (by omega), k1, nI_add]
            have j : zJ [rs] S (zsI S rs s.length (nI 1 - a)) := zJ.rf.I (by show (Nat.beq rs rs || false) = true; rw [Nat.beq_refl]; rfl)
            obtain ⟨y1, y2, y3, y4, y5⟩ := aS j
            exact w_Tk_isTrueOf_4 hN h1 h2 h3 l (i + 1) ((nI 1 - a) :: s) hS y2 y3 y1 y4 (by omega) hs hf.2 (by rw [zI_eq]; exact stk_push k2) y5 (fun S' j' => hQ S' (j.tr j'))
theorem w_Tk_isTrueOf {o2 ra rb rs : Nat} {w h p : Nat → Nat} {sd : Nat} {l : List (Nat × Nat)} (hN : l.length ≤ 400) (h1 : rs ≠ ra) (h2 : rs ≠ rb) (h3 : zNo [106, 107, 108, 109] rs) {S : ZSt} {Q : ZOut → ZSt → Prop} (hS : zSh S) (ht : jTO S o2 ra rb rs l) (hf : wfC l 0) (hE : jE S w h p sd) (hQ : ∀ S', zJ [rs] S S' → Q (.inl (some (.int (zBo (evC (vl w h p sd) l []))))) S') : zC m_Tk_isTrueOf [.ref o2, .ref 106] S Q := by
  obtain ⟨t1, t2, t3, t4⟩ := ht
  exact b_Tk_isTrueOf hS (w_Tk_isTrueOf_4 hN h1 h2 h3 l 0 [] hS t1 t2 t3 t4 (by omega) (by show 0 ≤ 32; omega) hf trivial hE hQ)
