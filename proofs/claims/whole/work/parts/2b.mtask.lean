/-! A TASK's text, the reference's side: all its C -/
/-- whether a C begins here -/
def fbg (b : Nat → Nat) (e p : Nat) : Bool := (Nat.beq (hr b e p) 91 || Nat.beq (hr b e p) 40) || (Nat.beq (tkK b e p) 2 || ((Nat.beq (tkW b e p) (sV 69) || Nat.beq (tkW b e p) (sV 61)) || ((Nat.beq (tkW b e p) (sV 63) || Nat.beq (tkW b e p) (sV 65)) || Nat.beq (tkW b e p) (sV 67))))
def fom (b : Nat → Nat) (e p : Nat) : Nat := if tkK b e p = 2 then (if tkV b e p ≤ 9999 then 3 else 2) else if fbg b e p = true then 3 else 1
def tlp (b : Nat → Nat) (e : Nat) : Nat → Nat → List (List (Nat × Nat)) → (Nat × Nat) ⊕ List (List (Nat × Nat))
  | 0, _, _ => .inl (0, 0)
  | f + 1, p, cs => if tkK b e p = 0 then (if cs.length = 0 then .inl (1, tkS b e p) else .inr cs) else if cs.length = 12 then .inl (fom b e p, tkS b e p) else match om b e 401 true true false false [] 0 p [] with
    | .inl x => .inl x
    | .inr y => tlp b e f y.1 (cs ++ [y.2.dropLast])
theorem tlp_s {b : Nat → Nat} {e f p : Nat} {cs : List (List (Nat × Nat))} : tlp b e (f + 1) p cs = if tkK b e p = 0 then (if cs.length = 0 then .inl (1, tkS b e p) else .inr cs) else if cs.length = 12 then .inl (fom b e p, tkS b e p) else match om b e 401 true true false false [] 0 p [] with
    | .inl x => .inl x
    | .inr y => tlp b e f y.1 (cs ++ [y.2.dropLast]) := rfl
theorem fbg_S {b : Nat → Nat} {e p : Nat} (hp : p ≤ e) : fbg b e (tkS b e p) = fbg b e p := by
  obtain ⟨h1, h2, h3, h4, h5⟩ := tk_S (b := b) hp
  unfold fbg
  rw [h1, h4, h5]
theorem tlp_S {b : Nat → Nat} {e f p : Nat} {cs : List (List (Nat × Nat))} (hp : p ≤ e) : tlp b e (f + 1) (tkS b e p) cs = tlp b e (f + 1) p cs := by
  obtain ⟨h1, h2, h3, h4, h5⟩ := tk_S (b := b) hp
  have hf : fom b e (tkS b e p) = fom b e p := by
    unfold fom
    rw [h1, h3, fbg_S hp]
  rw [tlp_s, tlp_s, h1, tkS_tkS hp, hf, om_S hp]
theorem fom_r {b : Nat → Nat} {e p : Nat} : 1 ≤ fom b e p ∧ fom b e p ≤ 3 := by
  unfold fom
  split
  · split <;> omega
  · split <;> omega
theorem w_M_isBegin {b : Nat → Nat} {e p : Nat} {S : ZSt} {Q : ZOut → ZSt → Prop} (hS : zSh S) (hC : zCst S) (hx : jMx S b e) (hp : p ≤ e) (h7 : zI S 130 7 = nI p) (hQ : ∀ S', zK7 S S' → zI S' 130 7 = nI (tkS b e p) → Q (.inl (some (.int (nI (if fbg b e p = true then 1 else 0))))) S') : zC m_M_isBegin [.ref 130] S Q := by
  obtain ⟨s1, s2⟩ := tkS_le (b := b) hp
  obtain ⟨y1, y2, y3, y4, y5⟩ := tk_S (b := b) hp
  have y0 := tkS_tkS (b := b) hp
  have hrl := hr_lt (p := p) hx
  have vlt := tkW_lt (b := b) (e := e) (p := p)
  have HK := hr_K (b := b) (e := e) (p := p) (k := 2) (Or.inr rfl)
  have ne : ∀ {r : Nat}, (List.range 25).any (fun k => Nat.beq r (25 + 2 * k)) = true → (nI (tkW b e p) = nI (sV r) ↔ tkW b e p = sV r) := fun hr' => nI_eq (by omega) (sV_l hr')
  refine b_M_isBegin hS (w_M_here hS hx hp h7 (fun S1 j1 a1 => b_M_isBegin_2 (j1.sh hS) (w_M_word (j1.sh hS) (hx.J j1) s2 a1 (fun S2 j2 a2 => b_M_isBegin_5 (j2.sh (j1.sh hS)) ?_))))
  have hS2 := j2.sh (j1.sh hS)
  have J2 := j1.tr j2
  have hC2 := hC.J J2.1 rfl
  rw [y4]
  have yes : fbg b e p = true → Q (.inl (some (.int (nI 1)))) S2 := fun z => by
    have := hQ S2 J2 (a2.trans (by rw [y0]))
    rw [if_pos z] at this
    exact this
  have no : fbg b e p = false → Q (.inl (some (.int (nI 0)))) S2 := fun z => by
    have := hQ S2 J2 (a2.trans (by rw [y0]))
    rw [if_neg (by rw [z]; decide)] at this
    exact this
  have bn : ∀ {x y : Nat}, x ≠ y → Nat.beq x y = false := fun {x y} h => by
    cases hb : Nat.beq x y with
    | false => rfl
    | true => exact absurd (Nat.eq_of_beq_eq_true hb) h
  by_cases c1 : hr b e p = 91
  · have F : fbg b e p = true := by
      unfold fbg
      rw [c1]
      rfl
    rw [c1]
    exact ⟨fun _ => ⟨by decide, yes F⟩, fun z => absurd rfl z⟩
  · refine ⟨fun z => absurd (nEq (by omega) (by omega) z) c1, fun _ => ?_⟩
    by_cases c2 : hr b e p = 40
    · have F : fbg b e p = true := by
        unfold fbg
        rw [c2]
        rfl
      rw [c2]
      exact ⟨fun _ => ⟨by decide, yes F⟩, fun z => absurd rfl z⟩
    · refine ⟨fun z => absurd (nEq (by omega) (by omega) z) c2, fun _ => w_M_isDigit (hr_lt hx) hS2 (b_M_isBegin_14 hS2 ?_)⟩
      by_cases c3 : tkK b e p = 2
      · have F : fbg b e p = true := by
          unfold fbg
          rw [c3]
          simp
        rw [if_pos (HK.mpr c3)]
        exact ⟨fun _ => ⟨by decide, yes F⟩, fun z => absurd (by decide) z⟩
      · rw [if_neg (fun z => c3 (HK.mp z))]
        refine ⟨fun z => absurd rfl z, fun _ => w_M_of rfl hS2 hC2 (b_M_isBegin_18 hS2 ⟨fun z => ?_, fun z4 => w_M_of rfl hS2 hC2 (b_M_isBegin_22 hS2 ⟨fun z => ?_, fun z5 => w_M_of rfl hS2 hC2 (b_M_isBegin_26 hS2 ⟨fun z => ?_, fun z6 => w_M_of rfl hS2 hC2 (b_M_isBegin_30 hS2 ⟨fun z => ?_, fun z7 => w_M_of rfl hS2 hC2 (b_M_isBegin_34 hS2 ⟨fun z8 => ?_, fun z => ?_⟩)⟩)⟩)⟩)⟩)⟩
        · refine ⟨by decide, yes ?_⟩
          unfold fbg
          rw [(ne rfl).mp z, Nat.beq_refl]
          simp
        · refine ⟨by decide, yes ?_⟩
          unfold fbg
          rw [(ne rfl).mp z, Nat.beq_refl]
          simp
        · refine ⟨by decide, yes ?_⟩
          unfold fbg
          rw [(ne rfl).mp z, Nat.beq_refl]
          simp
        · refine ⟨by decide, yes ?_⟩
          unfold fbg
          rw [(ne rfl).mp z, Nat.beq_refl]
          simp
        · refine ⟨by decide, no ?_⟩
          unfold fbg
          rw [bn c1, bn c2, bn c3, bn (fun y => z4 ((ne rfl).mpr y)), bn (fun y => z5 ((ne rfl).mpr y)), bn (fun y => z6 ((ne rfl).mpr y)), bn (fun y => z7 ((ne rfl).mpr y)), bn (fun y => z8 ((ne rfl).mpr y))]
          rfl
        · refine ⟨by decide, yes ?_⟩
          unfold fbg
          rw [(ne rfl).mp (Classical.not_not.mp z), Nat.beq_refl]
          simp
/-- what the reading of a task changes -/
def zTm (tc st : Nat) (S S' : ZSt) : Prop := zJ [130, 140, 141, 142, 143] S S' ∧ (∀ j, zmem j [7, 8, 9, 10, 11, 15, 20] = false → zI S' 130 j = zI S 130 j) ∧ (∀ j, j < st → zI S' 140 j = zI S 140 j ∧ zI S' 141 j = zI S 141 j) ∧ (∀ j, j < 13 * tc → zI S' 143 j = zI S 143 j) ∧ ∀ j, j ≠ tc → zI S' 142 j = zI S 142 j
theorem zTm.rf {tc st : Nat} {S : ZSt} : zTm tc st S S := ⟨zJ.rf, fun _ _ => rfl, fun _ _ => ⟨rfl, rfl⟩, fun _ _ => rfl, fun _ _ => rfl⟩
theorem zTm.tr {tc st : Nat} {S S1 S2 : ZSt} (h1 : zTm tc st S S1) (h2 : zTm tc st S1 S2) : zTm tc st S S2 := ⟨h1.1.tr h2.1, fun j hj => (h2.2.1 j hj).trans (h1.2.1 j hj), fun j hj => ⟨(h2.2.2.1 j hj).1.trans (h1.2.2.1 j hj).1, (h2.2.2.1 j hj).2.trans (h1.2.2.1 j hj).2⟩, fun j hj => (h2.2.2.2.1 j hj).trans (h1.2.2.2.1 j hj), fun j hj => (h2.2.2.2.2 j hj).trans (h1.2.2.2.2 j hj)⟩
theorem zMt.k {F0 tc st : Nat} {S S' : ZSt} (h : zMt F0 S S') (hs : st ≤ F0) : zTm tc st S S' := ⟨⟨h.1.1, fun c hc => h.1.2 c (zsub_of rfl c hc)⟩, fun j hj => h.2.1 j (zsub_of rfl j hj), fun j hj => h.2.2 j (by omega), fun j _ => by rw [h.1.2 143 rfl], fun j _ => by rw [h.1.2 142 rfl]⟩
theorem zTm.f {tc st k : Nat} {S : ZSt} {v : Int32} (hk : 13 * tc ≤ k) : zTm tc st S (zsI S 143 k v) := ⟨zJ.rf.I rfl, fun j _ => by rw [zI_ne _ _ (by omega)], fun j _ => by rw [zI_ne _ _ (by omega), zI_ne _ _ (by omega)]; exact ⟨rfl, rfl⟩, fun j hj => by rw [zI_o (by omega)], fun j _ => by rw [zI_ne _ _ (by omega)]⟩
theorem zTm.s {tc st j : Nat} {S : ZSt} {v : Int32} (hj : zmem j [7, 8, 9, 10, 11, 15, 20] = true) : zTm tc st S (zsI S 130 j v) := ⟨zJ.rf.I rfl, fun i hi => zI_o (fun e => by rw [e, hj] at hi; cases hi), fun i _ => by rw [zI_ne _ _ (by omega), zI_ne _ _ (by omega)]; exact ⟨rfl, rfl⟩, fun i _ => by rw [zI_ne _ _ (by omega)], fun i _ => by rw [zI_ne _ _ (by omega)]⟩
theorem totl_a : ∀ (cs : List (List (Nat × Nat))) (c : List (Nat × Nat)), totl (cs ++ [c]) = totl cs + c.length
  | [], c => by
    show c.length + 0 = 0 + c.length
    omega
  | x :: r, c => by
    show x.length + totl (r ++ [c]) = x.length + totl r + c.length
    rw [totl_a r c]
    omega
theorem cdM_a {S S' : ZSt} {t : Nat} {oc : List (Nat × Nat)} : ∀ (cs : List (List (Nat × Nat))) (k f : Nat), cdM S t k f cs → (∀ j, j < f + totl cs → zI S' 140 j = zI S 140 j ∧ zI S' 141 j = zI S 141 j) → (∀ j, j ≤ 13 * t + k + cs.length → zI S' 143 j = zI S 143 j) → patM (zI S' 140) (zI S' 141) (f + totl cs) oc → zI S' 143 (13 * t + k + cs.length + 1) = nI (f + totl cs + oc.length) → cdM S' t k f (cs ++ [oc])
  | [], k, f, h, e0, e3, hp, h3 => by
    have h' : zI S 143 (13 * t + k) = nI f := h
    refine ⟨?_, hp, ?_⟩
    · rw [e3 (13 * t + k) (Nat.le_refl _)]
      exact h'
    · exact h3
  | c :: r, k, f, h, e0, e3, hp, h3 => by
    have el : (c :: r).length = r.length + 1 := rfl
    have et : totl (c :: r) = c.length + totl r := rfl
    rw [et] at e0 hp h3
    refine ⟨?_, patM_c c f (fun j h1 h2 => e0 j (by omega)) h.2.1, cdM_a r (k + 1) (f + c.length) h.2.2 (fun j hj => e0 j (by omega)) (fun j hj => e3 j (by omega)) ?_ ?_⟩
    · rw [e3 (13 * t + k) (by omega)]
      exact h.1
    · rw [Nat.add_assoc]
      exact hp
    · rw [show 13 * t + (k + 1) + r.length + 1 = 13 * t + k + (c :: r).length + 1 by omega, Nat.add_assoc f]
      exact h3
theorem cdM_l {S : ZSt} {t : Nat} : ∀ (cs : List (List (Nat × Nat))) (k f : Nat), cdM S t k f cs → zI S 143 (13 * t + k + cs.length) = nI (f + totl cs)
  | [], k, f, h => h
  | c :: r, k, f, h => by
    have := cdM_l r (k + 1) (f + c.length) h.2.2
    rw [show 13 * t + k + (c :: r).length = 13 * t + (k + 1) + r.length by show 13 * t + k + (r.length + 1) = _; omega]
    rw [this]
    show nI (f + c.length + totl r) = nI (f + (c.length + totl r))
    rw [Nat.add_assoc]
theorem w_M_ta_end {k t tc : Nat} {x1 x3 : Int32} {st : Nat} {u4 u5 : Option Value} {S : ZSt} {Q : ZOut → ZSt → Prop} (hS : zSh S) (h15 : zI S 130 15 = nI tc) (hw : tc ≤ 6) (h : jBd S k t) (hk : 1 ≤ k ∧ k ≤ 4) (ht : t < 1000) (hQ : Q (.inl (some (.int (nI k - nI 10)))) (zsI (zsI S 130 11 (nI t)) 130 20 (nI st))) : zcl 101 m_M_task m_M_result 206 109 [some (.ref 130), some (.int x1), some (.int (nI st)), some (.int x3), u4, u5] [] [.ref 130, .int (zI S 130 15)] S Q := by
  refine w_M_result0 hS h hk ht (b_M_task_110 (((zJ.rf (l := [130])).I rfl).sh hS) ⟨fun h9 => absurd ?_ (zneg hk hw), fun _ => hQ⟩)
  rw [h9, zI_o (by omega)]
  exact h15
theorem w_M_ta_bad {k t tc : Nat} {x1 x3 : Int32} {st : Nat} {u4 u5 : Option Value} {S : ZSt} {Q : ZOut → ZSt → Prop} (hS : zSh S) (h15 : zI S 130 15 = nI tc) (hw : tc ≤ 6) (h : jBd S k t) (hk : 1 ≤ k ∧ k ≤ 4) (ht : t < 1000) (hQ : Q (.inl (some (.int (nI k - nI 10)))) (zsI (zsI S 130 11 (nI t)) 130 20 (nI st))) : zW 101 m_M_task 41 [some (.ref 130), some (.int x1), some (.int (nI st)), some (.int x3), u4, u5] [] S Q :=
  b_M_task_41 hS (w_M_fine0 hS h ht (b_M_task_43 hS ⟨fun _ => w_M_ta_end hS h15 hw h hk ht hQ, fun h9 => absurd rfl h9⟩))
theorem q_wrong {S : ZSt} {k t : Nat} {x y : Int32} {Q : ZOut → ZSt → Prop} (hS : zSh S) (h : jBd S k t) (ht : t < 1000) (hQ : Q (.inl none) S) : zC m_M_wrong [.ref 130, .int x, .int y] S Q := b_M_wrong hS ⟨fun h9 => absurd (h.1.symm.trans h9) (nI_m1 (by omega)), fun _ => hQ⟩
