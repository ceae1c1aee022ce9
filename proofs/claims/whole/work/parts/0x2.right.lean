/-! right, least -/
def cL (G : Nat → Bool) : List Nat → Nat
  | [] => 0
  | x :: l => (if G x = true then 1 else 0) + cL G l
def fL (G : Nat → Bool) : List Nat → Int32
  | [] => - nI 1
  | x :: l => if G x = true then fL G l else nI x
/-- what the object finds: the first number that fails, told by g -/
def fO (P : Nat → Bool) (g : Nat → Nat) : List Nat → Int32
  | [] => - nI 1
  | x :: l => if P x = true then fO P g l else nI (g x)
theorem cL_map {G P : Nat → Bool} {g : Nat → Nat} : ∀ (l : List Nat), (∀ x ∈ l, P x = G (g x)) → cL P l = cL G (l.map g)
  | [], _ => rfl
  | x :: l, h => by
    show (if P x = true then 1 else 0) + cL P l = (if G (g x) = true then 1 else 0) + cL G (l.map g)
    rw [h x (List.mem_cons_self ..), cL_map l (fun y hy => h y (List.mem_cons_of_mem _ hy))]
theorem fO_map {G P : Nat → Bool} {g : Nat → Nat} : ∀ (l : List Nat), (∀ x ∈ l, P x = G (g x)) → fO P g l = fL G (l.map g)
  | [], _ => rfl
  | x :: l, h => by
    show (if P x = true then fO P g l else nI (g x)) = if G (g x) = true then fL G (l.map g) else nI (g x)
    rw [h x (List.mem_cons_self ..), fO_map l (fun y hy => h y (List.mem_cons_of_mem _ hy))]
theorem cL_le {G : Nat → Bool} : ∀ (l : List Nat), cL G l ≤ l.length
  | [] => Nat.le_refl _
  | x :: l => by
    have := cL_le (G := G) l
    show (if G x = true then 1 else 0) + cL G l ≤ l.length + 1
    split <;> omega
/-- whether a way of the length N does a task from a small flock -/
def mt (N : Nat) (kd fa fb : Nat → Nat) (lim : Nat) (cs : List (List (Nat × Nat))) (w : Nat → Nat) : Bool := met w (go N kd fa fb lim w z0 0 0) cs
theorem w_N_isMetFrom {o o2 N i m n : Nat} {kd fa fb : Nat → Nat} {cs : List (List (Nat × Nat))} {S : ZSt} {Q : ZOut → ZSt → Prop} (hS : zSh S) (hw : OW S o N kd fa fb) (ht : OT S o2 cs) (hm : 1 ≤ m ∧ m ≤ 12) (hn : n ≤ 9) (hi : i < 2 ^ 31) (hQ : ∀ S', zH lO S S' → zSh S' → jN (zI S' 107) 12 1000000000 (dgt (n + 1) m i) → Q (.inl (some (.int (zBo (mt N kd fa fb 2000 cs (dgt (n + 1) m i)))))) S') : zC m_N_isMetFrom [.ref 75, .ref o, .ref o2, .int (nI i), .int (nI m), .int (nI n)] S Q := by
  obtain ⟨y1, ra, rb, rc, ⟨d0, d1, d2, d3⟩, y2⟩ := hw
  refine b_N_isMetFrom hS (w_Ru_startSmall hm hn hi hS (fun S1 j1 w1 r1 => b_N_isMetFrom_6 (j1.sh hS) ?_))
  have hS1 := j1.sh hS
  refine w_Ru_follow y1 (d0.no rfl) (d1.no rfl) (d2.no rfl) (d3.no rfl) hS1 (y2.J j1 (d0.no rfl) (d1.no rfl) (d2.no rfl) (d3.no rfl)) (by omega) y1.1 r1 (fun S2 j2 r2 => ?_)
  have hS2 := j2.sh hS1
  have h2 : zH lO S S2 := (j1.hO rfl).tr (j2.hO rfl)
  have w2 : jN (zI S2 107) 12 1000000000 (dgt (n + 1) m i) := by rw [j2.2 107 rfl]; exact w1
  obtain ⟨t1, ta, tb, rs, t0, ⟨ta1, tb1⟩, ⟨ts1, ts2⟩, t2⟩ := ht.H h2
  refine b_N_isMetFrom_11 hS2 ⟨t2.1, w_Tk_isMetBy (w := dgt (n + 1) m i) t1 (fun e => ta1.2 (by rw [← e]; exact ts1)) (fun e => tb1.2 (by rw [← e]; exact ts1)) (zmem_big (b := 162) rfl ts2) hS2 t2 w2 r2 (go_e _ _ _ _ _) (fun S3 j3 => b_N_isMetFrom_15 (j3.sh hS2) ⟨zBo_nar, hQ S3 (h2.tr (j3.hs ts1)) (j3.sh hS2) ?_⟩)⟩
  rw [j3.2 107 (zmemC (by omega) rfl)]
  exact w2
def rgO (N : Nat) (kd fa fb : Nat → Nat) (cs : List (List (Nat × Nat))) (m n : Nat) (i : Nat) : Bool := mt N kd fa fb 2000 cs (dgt (n + 1) m i)
theorem w_N_right_27 {o o2 N m n : Nat} {kd fa fb : Nat → Nat} {cs : List (List (Nat × Nat))} {x1 x2 : Int32} (hm : 1 ≤ m ∧ m ≤ 3) (hn : n ≤ 9) : ∀ (f i c : Nat) {S : ZSt} {Q : ZOut → ZSt → Prop}, zSh S → f + i = (n + 1) ^ m → OW S o N kd fa fb → OT S o2 cs → (∀ S', zH lO S S' → zSh S' → Q (.inl (some (.int (nI (c + cL (rgO N kd fa fb cs m n) (List.range' i f)))))) S') → zW 6 m_N_right 27 [some (.ref 75), some (.int x1), some (.int x2), some (.int (nI m)), some (.int (nI n)), some (.ref o), some (.ref o2), some (.int (nI ((n + 1) ^ m))), some (.int (nI c)), some (.int (nI i))] [] S Q
  | 0, i, c, S, Q, hS, hk, hw, ht, hQ => by
    have hb := pow_b (m := m) (n := n) (by omega) hn
    exact b_N_right_27 hS ⟨fun _ => hQ S zH.rf hS, fun h9 => absurd (nI_le (by omega) (by omega)) h9⟩
  | f + 1, i, c, S, Q, hS, hk, hw, ht, hQ => by
    have hb := pow_b (m := m) (n := n) (by omega) hn
    refine b_N_right_27 hS ⟨fun h9 => absurd h9 (nI_ge (by omega) (by omega)), fun _ => w_N_isMetFrom hS hw ht (by omega) hn (by omega) (fun S1 j1 hS1 _ => b_N_right_37 hS1 ?_)⟩
    have e : cL (rgO N kd fa fb cs m n) (List.range' i (f + 1)) = (if rgO N kd fa fb cs m n i = true then 1 else 0) + cL (rgO N kd fa fb cs m n) (List.range' (i + 1) f) := rfl
    rw [e] at hQ
    cases hbb : mt N kd fa fb 2000 cs (dgt (n + 1) m i) with
    | false =>
      refine ⟨fun _ => ?_, fun h9 => absurd (by decide) h9⟩
      rw [nI_add]
      refine w_N_right_27 hm hn f (i + 1) c hS1 (by omega) (hw.H j1) (ht.H j1) (fun S' j' hS' => ?_)
      have := hQ S' (j1.tr j') hS'
      rw [if_neg (by show ¬ mt N kd fa fb 2000 cs (dgt (n + 1) m i) = true; rw [hbb]; decide), Nat.zero_add] at this
      exact this
    | true =>
      refine ⟨fun h9 => absurd h9 (by decide), fun _ => ?_⟩
      rw [nI_add, nI_add]
      refine w_N_right_27 hm hn f (i + 1) (c + 1) hS1 (by omega) (hw.H j1) (ht.H j1) (fun S' j' hS' => ?_)
      have := hQ S' (j1.tr j') hS'
      rw [if_pos (show rgO N kd fa fb cs m n i = true from hbb), ← Nat.add_assoc] at this
      exact this
theorem w_N_least_25 {o o2 N m n : Nat} {kd fa fb : Nat → Nat} {cs : List (List (Nat × Nat))} {x1 x2 : Int32} (hm : 1 ≤ m ∧ m ≤ 3) (hn : n ≤ 9) : ∀ (f i : Nat) {S : ZSt} {Q : ZOut → ZSt → Prop}, zSh S → f + i = (n + 1) ^ m → OW S o N kd fa fb → OT S o2 cs → (∀ S', zH lO S S' → zSh S' → Q (.inl (some (.int (fO (rgO N kd fa fb cs m n) (fun i => dcp (n + 1) m i m) (List.range' i f))))) S') → zW 6 m_N_least 25 [some (.ref 75), some (.int x1), some (.int x2), some (.int (nI m)), some (.int (nI n)), some (.ref o), some (.ref o2), some (.int (nI ((n + 1) ^ m))), some (.int (nI i))] [] S Q
  | 0, i, S, Q, hS, hk, hw, ht, hQ => by
    have hb := pow_b (m := m) (n := n) (by omega) hn
    exact b_N_least_25 hS ⟨fun _ => hQ S zH.rf hS, fun h9 => absurd (nI_le (by omega) (by omega)) h9⟩
  | f + 1, i, S, Q, hS, hk, hw, ht, hQ => by
    have hb := pow_b (m := m) (n := n) (by omega) hn
    refine b_N_least_25 hS ⟨fun h9 => absurd h9 (nI_ge (by omega) (by omega)), fun _ => w_N_isMetFrom hS hw ht (by omega) hn (by omega) (fun S1 j1 hS1 w1 => b_N_least_35 hS1 ?_)⟩
    have e : fO (rgO N kd fa fb cs m n) (fun i => dcp (n + 1) m i m) (List.range' i (f + 1)) = if rgO N kd fa fb cs m n i = true then fO (rgO N kd fa fb cs m n) (fun i => dcp (n + 1) m i m) (List.range' (i + 1) f) else nI (dcp (n + 1) m i m) := rfl
    rw [e] at hQ
    cases hbb : mt N kd fa fb 2000 cs (dgt (n + 1) m i) with
    | true =>
      refine ⟨fun _ => ?_, fun h9 => absurd (by decide) h9⟩
      rw [nI_add]
      refine w_N_least_25 hm hn f (i + 1) hS1 (by omega) (hw.H j1) (ht.H j1) (fun S' j' hS' => ?_)
      have := hQ S' (j1.tr j') hS'
      rw [if_pos (show rgO N kd fa fb cs m n i = true from hbb)] at this
      exact this
    | false =>
      refine ⟨fun h9 => absurd (by decide) h9, fun _ => w_Ru_flockNumber (b := n + 1) (i := i) (by omega) hm.2 hS1 w1 (b_N_least_40 hS1 ?_)⟩
      have := hQ S1 j1 hS1
      rw [if_neg (by show ¬ mt N kd fa fb 2000 cs (dgt (n + 1) m i) = true; rw [hbb]; decide)] at this
      exact this
/-! the reference's side -/
def MV (T : ZSt) (q N : Nat) (kd fa fb : Nat → Nat) : Prop := zWy N kd fa fb ∧ zAl N kd fa fb ∧ q ≤ 6 ∧ jWM T q N kd fa fb ∧ zI T 130 34 = - nI 1
theorem MV.J {l : List Nat} {T T1 : ZSt} {q N : Nat} {kd fa fb : Nat → Nat} (hw : MV T q N kd fa fb) (j : zJ l T T1) (n0 : (zmem 136 l || (zmem 137 l || (zmem 138 l || zmem 139 l))) = false) (e : zI T1 130 34 = zI T 130 34) : MV T1 q N kd fa fb := ⟨hw.1, hw.2.1, hw.2.2.1, hw.2.2.2.1.J j n0, e.trans hw.2.2.2.2⟩
def zK38 (S S' : ZSt) : Prop := ∀ j, (j < 29 ∨ 38 < j ∨ j = 34 ∨ j = 35) → zI S' 130 j = zI S 130 j
theorem zK38.rf {S : ZSt} : zK38 S S := fun _ _ => rfl
theorem zK38.tr {S S1 S2 : ZSt} (h1 : zK38 S S1) (h2 : zK38 S1 S2) : zK38 S S2 := fun j hj => (h2 j hj).trans (h1 j hj)
theorem zK36.to38 {S S' : ZSt} (h : zK36 S S') : zK38 S S' := fun j hj => h j (by omega) (by omega)
theorem zK38.I {S S1 : ZSt} (h : zK38 S S1) {k : Nat} {v : Int32} (hk : k = 37 ∨ k = 38) : zK38 S (zsI S1 130 k v) := fun j hj => by
  rw [zI_o (by omega)]
  exact h j hj
theorem zK38.keys {S S' : ZSt} (h : zK38 S S') : ∀ j, zmem j zKeys = true → zI S' 130 j = zI S 130 j := fun j hj => h j (by have := zkey hj; omega)
theorem w_M_gA_28 {q t m n lim tf all k : Nat} {S : ZSt} {Q : ZOut → ZSt → Prop} (hS : zSh S) (hn : n ≤ 9) : ∀ (fu r : Nat) (fl : Bool), r < 10 ^ fu → fu ≤ 3 → zW 4 m_M_goesAll 28 [some (.ref 130), some (.int (nI q)), some (.int (nI t)), some (.int (nI m)), some (.int (nI n)), some (.int (nI lim)), some (.int (nI tf)), some (.int (nI all)), some (.int (nI k)), some (.int (zBo (fl && okf n fu r))), some (.int (nI 0))] [] S Q → zW 4 m_M_goesAll 28 [some (.ref 130), some (.int (nI q)), some (.int (nI t)), some (.int (nI m)), some (.int (nI n)), some (.int (nI lim)), some (.int (nI tf)), some (.int (nI all)), some (.int (nI k)), some (.int (zBo fl)), some (.int (nI r))] [] S Q
  | 0, r, fl, hr, hf, h => by
    have hr0 : r < 1 := hr
    obtain rfl : r = 0 := by omega
    rw [show (fl && okf n 0 0) = fl by show (fl && true) = fl; exact Bool.and_true fl] at h
    exact h
  | fu + 1, r, fl, hr, hf, h => by
    by_cases h0 : r = 0
    · subst h0
      rw [show (fl && okf n (fu + 1) 0) = fl by show (fl && true) = fl; exact Bool.and_true fl] at h
      exact h
    · have e : okf n (fu + 1) r = (decide (r % 10 ≤ n) && okf n fu (r / 10)) := if_neg h0
      rw [e] at h
      have hb : r < 2 ^ 31 := by
        have : 10 ^ (fu + 1) ≤ 10 ^ 3 := Nat.pow_le_pow_right (by omega) hf
        omega
      have hr' : r / 10 < 10 ^ fu := by
        rw [Nat.pow_succ] at hr
        omega
      have ih := fun fl' => w_M_gA_28 (q := q) (t := t) (m := m) (lim := lim) (tf := tf) (all := all) (k := k) (Q := Q) hS hn fu (r / 10) fl' hr' (by omega)
      refine b_M_goesAll_28 hS ⟨fun h9 => absurd h9 (nI_nle (by omega) hb), fun _ => ?_⟩
      rw [zrem hb (by omega) (by omega), pk_div hb (by omega) (by omega)]
      cases fl with
      | false => exact ⟨fun _ => ⟨by decide, ih false (by simpa using h)⟩, fun h9 => absurd rfl h9⟩
      | true =>
        refine ⟨fun h9 => absurd h9 (by decide), fun _ => ⟨by decide, fun h9 => ⟨by decide, ih false ?_⟩, fun h9 => ⟨by decide, ih true ?_⟩⟩⟩
        · have : ¬ r % 10 ≤ n := fun h8 => absurd h9 (nI_nlt h8 (by omega))
          rw [decide_eq_false this] at h
          exact h
        · have : r % 10 ≤ n := Nat.not_lt.mp (fun h8 => h9 (nI_lt h8 (by omega)))
          rw [decide_eq_true this] at h
          exact h
theorem w_M_gA_step {q t m n lim tf k N : Nat} {kd fa fb : Nat → Nat} {cs : List (List (Nat × Nat))} {u9 u10 : Option Value} {S : ZSt} {Q : ZOut → ZSt → Prop} (hS : zSh S) (hn : n ≤ 9) (hm : 1 ≤ m ∧ m ≤ 3) (hk : k < 10 ^ m) (hl : lim ≤ 4000) (hw : MV S q N kd fa fb) (ht : t < 6) (hf : wfT cs) (hT : jTM S t cs)
    (h1 : okf n 3 k = false → zW 4 m_M_goesAll 21 [some (.ref 130), some (.int (nI q)), some (.int (nI t)), some (.int (nI m)), some (.int (nI n)), some (.int (nI lim)), some (.int (nI tf)), some (.int (nI (10 ^ m))), some (.int (nI (k + 1))), some (.int (nI 0)), some (.int (nI 0))] [] S Q)
    (h2 : okf n 3 k = true → ∀ S1, zJ [130, 144, 145, 146, 147] S S1 → zK36 S S1 → zW 4 m_M_goesAll 62 [some (.ref 130), some (.int (nI q)), some (.int (nI t)), some (.int (nI m)), some (.int (nI n)), some (.int (nI lim)), some (.int (nI tf)), some (.int (nI (10 ^ m))), some (.int (nI k)), some (.int (nI 1)), some (.int (nI 0))] [.int (zBo (mt N kd fa fb lim cs (dgt 10 m k)))] S1 Q) :
    zW 4 m_M_goesAll 21 [some (.ref 130), some (.int (nI q)), some (.int (nI t)), some (.int (nI m)), some (.int (nI n)), some (.int (nI lim)), some (.int (nI tf)), some (.int (nI (10 ^ m))), some (.int (nI k)), u9, u10] [] S Q := by
  have hp : 10 ^ m ≤ 10 ^ 3 := Nat.pow_le_pow_right (by omega) hm.2
  refine b_M_goesAll_21 hS ⟨fun h9 => absurd h9 (nI_ge (by omega) (by omega)), fun _ => w_M_gA_28 hS hn 3 k true (by omega) (by omega) ?_⟩
  rw [Bool.true_and]
  cases hb : okf n 3 k with
  | false =>
    refine b_M_goesAll_28 hS ⟨fun _ => ⟨fun h9 => absurd (by decide) h9, fun _ => ?_⟩, fun h9 => absurd (by decide) h9⟩
    rw [nI_add]
    exact h1 hb
  | true =>
    refine b_M_goesAll_28 hS ⟨fun _ => ⟨fun _ => ?_, fun h9 => absurd (by decide) h9⟩, fun h9 => absurd (by decide) h9⟩
    obtain ⟨y1, hA, hq, y3, h34⟩ := hw
    refine w_M_fromNumber (by omega) (by omega) hS (fun S1 j1 g1 g2 => b_M_goesAll_53 (j1.sh hS) ?_)
    have hS1 := j1.sh hS
    refine w_M_goes y1 hA hq (h := dgt 10 m k) (p := z0) hS1 (y3.J j1 rfl) hl (by rw [j1.2 130 rfl]; exact h34) g1 g2 (fun S2 j2 s2 r2 => b_M_goesAll_59 (j2.sh hS1) ?_)
    have hS2 := j2.sh hS1
    refine w_M_isDone (w := dgt 10 m k) ht hf hS2 ((hT.J j1 rfl rfl).J j2 rfl rfl) (by rw [j2.2 145 rfl]; exact g1) r2 (go_e _ _ _ _ _) (fun S3 j3 => ?_)
    exact h2 hb S3 (((zJ3 j1 (zsub_of rfl)).tr (zJ3 j2 (zsub_of rfl))).tr (zJ3 j3 (zsub_of rfl))) (fun j a b => by rw [j3.2 130 rfl, s2 j a b, j1.2 130 rfl])
def rgM (N : Nat) (kd fa fb : Nat → Nat) (lim : Nat) (cs : List (List (Nat × Nat))) (m : Nat) (k : Nat) : Bool := mt N kd fa fb lim cs (dgt 10 m k)
theorem flt_s {p : Nat → Bool} {k f : Nat} : (List.range' k (f + 1)).filter p = if p k = true then k :: (List.range' (k + 1) f).filter p else (List.range' (k + 1) f).filter p := by
  show (k :: List.range' (k + 1) f).filter p = _
  rw [List.filter_cons]
theorem w_M_gA_21n {q t m n lim N : Nat} {kd fa fb : Nat → Nat} {cs : List (List (Nat × Nat))} (hn : n ≤ 9) (hm : 1 ≤ m ∧ m ≤ 3) (hl : lim ≤ 4000) (ht : t < 6) (hf : wfT cs) : ∀ (f k c : Nat) {u9 u10 : Option Value} {S : ZSt} {Q : ZOut → ZSt → Prop}, zSh S → f + k = 10 ^ m → MV S q N kd fa fb → jTM S t cs → zI S 130 37 = nI c → (∀ S', zJ [130, 144, 145, 146, 147] S S' → zK38 S S' → zI S' 130 37 = nI (c + cL (rgM N kd fa fb lim cs m) ((List.range' k f).filter (okf n 3))) → Q (.inl none) S') → zW 4 m_M_goesAll 21 [some (.ref 130), some (.int (nI q)), some (.int (nI t)), some (.int (nI m)), some (.int (nI n)), some (.int (nI lim)), some (.int (nI 0)), some (.int (nI (10 ^ m))), some (.int (nI k)), u9, u10] [] S Q
  | 0, k, c, u9, u10, S, Q, hS, hk, hw, hT, h37, hQ => by
    have hp : 10 ^ m ≤ 10 ^ 3 := Nat.pow_le_pow_right (by omega) hm.2
    exact b_M_goesAll_21 hS ⟨fun _ => hQ S zJ.rf zK38.rf h37, fun h9 => absurd (nI_le (by omega) (by omega)) h9⟩
  | f + 1, k, c, u9, u10, S, Q, hS, hk, hw, hT, h37, hQ => by
    have hp : 10 ^ m ≤ 10 ^ 3 := Nat.pow_le_pow_right (by omega) hm.2
    rw [flt_s] at hQ
    refine w_M_gA_step hS hn hm (by omega) hl hw ht hf hT (fun hb => ?_) (fun hb S1 j1 s1 => ?_)
    · rw [hb, if_neg (by decide)] at hQ
      exact w_M_gA_21n hn hm hl ht hf f (k + 1) c hS (by omega) hw hT h37 hQ
    · rw [hb, if_pos rfl] at hQ
      have hS1 := j1.sh hS
      have e37 : zI S1 130 37 = nI c := (s1 37 (by omega) (by omega)).trans h37
      have e : cL (rgM N kd fa fb lim cs m) (k :: (List.range' (k + 1) f).filter (okf n 3)) = (if rgM N kd fa fb lim cs m k = true then 1 else 0) + cL (rgM N kd fa fb lim cs m) ((List.range' (k + 1) f).filter (okf n 3)) := rfl
      rw [e] at hQ
      refine b_M_goesAll_62 hS1 ?_
      rw [nI_add]
      cases hbb : mt N kd fa fb lim cs (dgt 10 m k) with
      | false =>
        rw [if_neg (show ¬ rgM N kd fa fb lim cs m k = true by show ¬ mt N kd fa fb lim cs (dgt 10 m k) = true; rw [hbb]; decide), Nat.zero_add] at hQ
        refine ⟨fun _ => ⟨fun _ => ⟨fun _ => ?_, fun h9 => absurd rfl h9⟩, fun _ => ⟨fun _ => ?_, fun h9 => absurd rfl h9⟩⟩, fun h9 => absurd (by decide) h9⟩
        · exact w_M_gA_21n hn hm hl ht hf f (k + 1) c hS1 (by omega) (hw.J j1 rfl (s1 34 (by omega) (by omega))) (hT.J j1 rfl rfl) e37 (fun S' j' s' => hQ S' (j1.tr j') (s1.to38.tr s'))
        · have j2 : zJ [130, 144, 145, 146, 147] S (zsI S1 130 38 (nI k)) := j1.I rfl
          have s2 : zK38 S (zsI S1 130 38 (nI k)) := s1.to38.I (Or.inr rfl)
          exact w_M_gA_21n hn hm hl ht hf f (k + 1) c hS1 (by omega) (hw.J j2 rfl (s2 34 (by omega))) (hT.J j2 rfl rfl) ((zI_o (by omega)).trans e37) (fun S' j' s' => hQ S' (j2.tr j') (s2.tr s'))
      | true =>
        rw [if_pos (show rgM N kd fa fb lim cs m k = true from hbb), ← Nat.add_assoc] at hQ
        refine ⟨fun h9 => absurd h9 (by decide), fun _ => ?_⟩
        rw [e37, nI_add]
        have j2 : zJ [130, 144, 145, 146, 147] S (zsI S1 130 37 (nI (c + 1))) := j1.I rfl
        have s2 : zK38 S (zsI S1 130 37 (nI (c + 1))) := s1.to38.I (Or.inl rfl)
        exact w_M_gA_21n hn hm hl ht hf f (k + 1) (c + 1) hS1 (by omega) (hw.J j2 rfl (s2 34 (by omega))) (hT.J j2 rfl rfl) zI_s (fun S' j' s' => hQ S' (j2.tr j') (s2.tr s'))
theorem w_M_gA_21f {q t m n lim N : Nat} {kd fa fb : Nat → Nat} {cs : List (List (Nat × Nat))} (hn : n ≤ 9) (hm : 1 ≤ m ∧ m ≤ 3) (hl : lim ≤ 4000) (ht : t < 6) (hf : wfT cs) : ∀ (f k : Nat) {u9 u10 : Option Value} {S : ZSt} {Q : ZOut → ZSt → Prop}, zSh S → f + k = 10 ^ m → MV S q N kd fa fb → jTM S t cs → zI S 130 38 = - nI 1 → (∀ S', zJ [130, 144, 145, 146, 147] S S' → zK38 S S' → zI S' 130 38 = fL (rgM N kd fa fb lim cs m) ((List.range' k f).filter (okf n 3)) → Q (.inl none) S') → zW 4 m_M_goesAll 21 [some (.ref 130), some (.int (nI q)), some (.int (nI t)), some (.int (nI m)), some (.int (nI n)), some (.int (nI lim)), some (.int (nI 1)), some (.int (nI (10 ^ m))), some (.int (nI k)), u9, u10] [] S Q
  | 0, k, u9, u10, S, Q, hS, hk, hw, hT, h38, hQ => by
    have hp : 10 ^ m ≤ 10 ^ 3 := Nat.pow_le_pow_right (by omega) hm.2
    exact b_M_goesAll_21 hS ⟨fun _ => hQ S zJ.rf zK38.rf h38, fun h9 => absurd (nI_le (by omega) (by omega)) h9⟩
  | f + 1, k, u9, u10, S, Q, hS, hk, hw, hT, h38, hQ => by
    have hp : 10 ^ m ≤ 10 ^ 3 := Nat.pow_le_pow_right (by omega) hm.2
    rw [flt_s] at hQ
    refine w_M_gA_step hS hn hm (by omega) hl hw ht hf hT (fun hb => ?_) (fun hb S1 j1 s1 => ?_)
    · rw [hb, if_neg (by decide)] at hQ
      exact w_M_gA_21f hn hm hl ht hf f (k + 1) hS (by omega) hw hT h38 hQ
    · rw [hb, if_pos rfl] at hQ
      have hS1 := j1.sh hS
      have e38 : zI S1 130 38 = - nI 1 := (s1 38 (by omega) (by omega)).trans h38
      have e : fL (rgM N kd fa fb lim cs m) (k :: (List.range' (k + 1) f).filter (okf n 3)) = if rgM N kd fa fb lim cs m k = true then fL (rgM N kd fa fb lim cs m) ((List.range' (k + 1) f).filter (okf n 3)) else nI k := rfl
      rw [e] at hQ
      refine b_M_goesAll_62 hS1 ?_
      rw [nI_add]
      cases hbb : mt N kd fa fb lim cs (dgt 10 m k) with
      | false =>
        rw [if_neg (show ¬ rgM N kd fa fb lim cs m k = true by show ¬ mt N kd fa fb lim cs (dgt 10 m k) = true; rw [hbb]; decide)] at hQ
        refine ⟨fun _ => ⟨fun h9 => absurd e38 h9, fun _ => ⟨fun h9 => absurd h9 (by decide), fun _ => hQ _ (j1.I rfl) (s1.to38.I (Or.inr rfl)) zI_s⟩⟩, fun h9 => absurd (by decide) h9⟩
      | true =>
        rw [if_pos (show rgM N kd fa fb lim cs m k = true from hbb)] at hQ
        refine ⟨fun h9 => absurd h9 (by decide), fun _ => ?_⟩
        generalize zI S1 130 37 + nI 1 = v
        have j2 : zJ [130, 144, 145, 146, 147] S (zsI S1 130 37 v) := j1.I rfl
        have s2 : zK38 S (zsI S1 130 37 v) := s1.to38.I (Or.inl rfl)
        exact w_M_gA_21f hn hm hl ht hf f (k + 1) hS1 (by omega) (hw.J j2 rfl (s2 34 (by omega))) (hT.J j2 rfl rfl) ((zI_o (by omega)).trans e38) (fun S' j' s' => hQ S' (j2.tr j') (s2.tr s'))
theorem w_M_gA_10 {q t m n lim tf : Nat} (hm : m ≤ 3) : ∀ (f k : Nat) {S : ZSt} {Q : ZOut → ZSt → Prop}, zSh S → f + k = m → zW 4 m_M_goesAll 21 [some (.ref 130), some (.int (nI q)), some (.int (nI t)), some (.int (nI m)), some (.int (nI n)), some (.int (nI lim)), some (.int (nI tf)), some (.int (nI (10 ^ m))), some (.int (nI 0)), none, none] [] S Q → zW 4 m_M_goesAll 10 [some (.ref 130), some (.int (nI q)), some (.int (nI t)), some (.int (nI m)), some (.int (nI n)), some (.int (nI lim)), some (.int (nI tf)), some (.int (nI (10 ^ k))), some (.int (nI k)), none, none] [] S Q
  | 0, k, S, Q, hS, hk, h => by
    obtain rfl : k = m := by omega
    exact b_M_goesAll_10 hS ⟨fun _ => h, fun h9 => absurd (nI_le (Nat.le_refl _) (by omega)) h9⟩
  | f + 1, k, S, Q, hS, hk, h => by
    refine b_M_goesAll_10 hS ⟨fun h9 => absurd h9 (nI_ge (by omega) (by omega)), fun _ => ?_⟩
    rw [nI_add, pk_mul, ← Nat.pow_succ]
    exact w_M_gA_10 hm f (k + 1) hS (by omega) h
/-- all small flocks counted -/
theorem w_M_goesAll_n {q t m n lim N : Nat} {kd fa fb : Nat → Nat} {cs : List (List (Nat × Nat))} (hn : n ≤ 9) (hm : 1 ≤ m ∧ m ≤ 3) (hl : lim ≤ 4000) (ht : t < 6) (hf : wfT cs) {S : ZSt} {Q : ZOut → ZSt → Prop} (hS : zSh S) (hw : MV S q N kd fa fb) (hT : jTM S t cs) (hQ : ∀ S', zJ [130, 144, 145, 146, 147] S S' → zK38 S S' → zI S' 130 37 = nI (cL (rgM N kd fa fb lim cs m) ((List.range' 0 (10 ^ m)).filter (okf n 3))) → Q (.inl none) S') : zC m_M_goesAll [.ref 130, .int (nI q), .int (nI t), .int (nI m), .int (nI n), .int (nI lim), .int (nI 0)] S Q := by
  have j : zJ [130, 144, 145, 146, 147] S (zsI (zsI S 130 37 (nI 0)) 130 38 (- nI 1)) := (zJ.rf.I rfl).I rfl
  have s : zK38 S (zsI (zsI S 130 37 (nI 0)) 130 38 (- nI 1)) := (zK38.rf.I (Or.inl rfl)).I (Or.inr rfl)
  refine b_M_goesAll hS (w_M_gA_10 hm.2 m 0 (S := zsI (zsI S 130 37 (nI 0)) 130 38 (- nI 1)) hS (by omega) (w_M_gA_21n hn hm hl ht hf (10 ^ m) 0 0 (S := zsI (zsI S 130 37 (nI 0)) 130 38 (- nI 1)) hS (by omega) (hw.J j rfl (s 34 (by omega))) (hT.J j rfl rfl) (by rw [zI_o (by omega), zI_s]) (fun S' j' s' e => hQ S' (j.tr j') (s.tr s') ?_)))
  rw [Nat.zero_add] at e
  exact e
/-- up to the first that fails -/
theorem w_M_goesAll_f {q t m n lim N : Nat} {kd fa fb : Nat → Nat} {cs : List (List (Nat × Nat))} (hn : n ≤ 9) (hm : 1 ≤ m ∧ m ≤ 3) (hl : lim ≤ 4000) (ht : t < 6) (hf : wfT cs) {S : ZSt} {Q : ZOut → ZSt → Prop} (hS : zSh S) (hw : MV S q N kd fa fb) (hT : jTM S t cs) (hQ : ∀ S', zJ [130, 144, 145, 146, 147] S S' → zK38 S S' → zI S' 130 38 = fL (rgM N kd fa fb lim cs m) ((List.range' 0 (10 ^ m)).filter (okf n 3)) → Q (.inl none) S') : zC m_M_goesAll [.ref 130, .int (nI q), .int (nI t), .int (nI m), .int (nI n), .int (nI lim), .int (nI 1)] S Q := by
  have j : zJ [130, 144, 145, 146, 147] S (zsI (zsI S 130 37 (nI 0)) 130 38 (- nI 1)) := (zJ.rf.I rfl).I rfl
  have s : zK38 S (zsI (zsI S 130 37 (nI 0)) 130 38 (- nI 1)) := (zK38.rf.I (Or.inl rfl)).I (Or.inr rfl)
  exact b_M_goesAll hS (w_M_gA_10 hm.2 m 0 (S := zsI (zsI S 130 37 (nI 0)) 130 38 (- nI 1)) hS (by omega) (w_M_gA_21f hn hm hl ht hf (10 ^ m) 0 (S := zsI (zsI S 130 37 (nI 0)) 130 38 (- nI 1)) hS (by omega) (hw.J j rfl (s 34 (by omega))) (hT.J j rfl rfl) zI_s (fun S' j' s' e => hQ S' (j.tr j') (s.tr s') e)))
