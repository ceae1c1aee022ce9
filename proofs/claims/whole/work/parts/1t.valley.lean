/-! A VALLEY's text: pure, and the object's side -/
def ixN : List Nat → Nat → Nat → Option Nat
  | [], _, _ => none
  | c :: r, w, k => if w = c then some k else ixN r w (k + 1)
theorem wix_N : ∀ (l : List Nat) (w k : Nat), wix l w k = (match ixN l w k with
    | none => - nI 1
    | some i => nI i) ∧ ∀ i, ixN l w k = some i → k ≤ i ∧ i < k + l.length
  | [], w, k => ⟨rfl, fun i h => by cases h⟩
  | c :: r, w, k => by
    have e1 : wix (c :: r) w k = if w = c then nI k else wix r w (k + 1) := rfl
    have e2 : ixN (c :: r) w k = if w = c then some k else ixN r w (k + 1) := rfl
    obtain ⟨h1, h2⟩ := wix_N r w (k + 1)
    rw [e1, e2]
    by_cases h : w = c
    · rw [if_pos h, if_pos h]
      refine ⟨rfl, fun i hi => ?_⟩
      have : k = i := Option.some.inj hi
      have : (c :: r).length = r.length + 1 := rfl
      omega
    · rw [if_neg h, if_neg h]
      refine ⟨h1, fun i hi => ?_⟩
      have := h2 i hi
      have : (c :: r).length = r.length + 1 := rfl
      omega
def vlo (i : Nat) : Nat := if i = 0 ∨ i = 2 then 1 else 0
def vhi (i : Nat) : Nat := if i = 0 then 12 else if i = 3 then 3 else 24
/-- a clause: a fault (kind, place), or which word, its number, and what stands behind -/
def vcl (b : Nat → Nat) (e p : Nat) (sn : Nat → Nat) : (Nat × Nat) ⊕ (Nat × Nat × Nat) := match ixN (sW 21) (tkW b e p) 0 with
  | none => .inl (1, tkS b e p)
  | some i => if sn i = 1 then .inl (4, tkS b e p) else if i < 4 then (if tkK b e (tkE b e p) = 2 then (if vlo i ≤ tkV b e (tkE b e p) ∧ tkV b e (tkE b e p) ≤ vhi i then (if hr b e (tkE b e (tkE b e p)) = 59 then .inr (i, tkV b e (tkE b e p), tkE b e (tkE b e (tkE b e p))) else .inl (1, tkS b e (tkE b e (tkE b e p)))) else .inl (2, tkS b e (tkE b e p))) else .inl (1, tkS b e (tkE b e p))) else if hr b e (tkE b e p) = 59 then .inr (i, 1, tkE b e (tkE b e p)) else .inl (1, tkS b e (tkE b e p))
def upN (f : Nat → Nat) (i v : Nat) : Nat → Nat := fun j => if j = i then v else f j
def vlp (b : Nat → Nat) (e : Nat) : Nat → Nat → (Nat → Nat) → (Nat → Nat) → Nat → (Nat × Nat) ⊕ ((Nat → Nat) × Nat)
  | 0, _, _, _, _ => .inl (0, 0)
  | f + 1, p, sn, td, m => if tkK b e p = 0 then .inr (td, m) else match vcl b e p sn with
    | .inl x => .inl x
    | .inr y => vlp b e f y.2.2 (upN sn y.1 1) (upN td y.1 y.2.1) (m + 1)
theorem sW21 : (sW 21).length = 6 := by decide +kernel
theorem zlst {l : List Nat} {c : Nat} (hl : l.all (fun x => Nat.ble 75 x) = true) (hc : c < 75) : zmem c l = false := by
  induction l with
  | nil => rfl
  | cons a l ih =>
    have h' : (Nat.ble 75 a && l.all (fun x => Nat.ble 75 x)) = true := hl
    obtain ⟨h1, h2⟩ := zand h'
    have h3 : 75 ≤ a := Nat.le_of_ble_eq_true h1
    exact zmemC (by omega) (ih h2)
theorem zCst.J {l : List Nat} {S S' : ZSt} (h : zCst S) (j : zJ l S S') (hl : l.all (fun x => Nat.ble 75 x) = true) : zCst S' := fun c k h1 h2 => by
  rw [j.2 c (zlst hl h2)]
  exact h c k h1 h2
theorem vlm : ∀ i, i < 4 → (zcon.getD 2 []).getD i 0 = nI (vlo i) ∧ (zcon.getD 3 []).getD i 0 = nI (vhi i) ∧ vlo i ≤ 1 ∧ vhi i ≤ 24 := by decide +kernel
/-- what the reading of a valley may change -/
def zVr (S S' : ZSt) : Prop := zJ [76, 78, 79, 80] S S' ∧ ∀ j, j < 3 → zI S' 76 j = zI S 76 j
theorem zVr.rf {S : ZSt} : zVr S S := ⟨zJ.rf, fun _ _ => rfl⟩
theorem zVr.tr {S S1 S2 : ZSt} (h1 : zVr S S1) (h2 : zVr S1 S2) : zVr S S2 := ⟨h1.1.tr h2.1, fun j hj => (h2.2 j hj).trans (h1.2 j hj)⟩
theorem zJ7.v {S S' : ZSt} (h : zJ7 S S') : zVr S S' := ⟨⟨h.1.1, fun c hc => h.1.2 c (zsub_of rfl c hc)⟩, fun j hj => h.2 j (Or.inl hj)⟩
theorem zVr.I {S : ZSt} {a k : Nat} {v : Int32} (ha : zmem a [78, 79, 80] = true) : zVr S (zsI S a k v) := ⟨zJ.rf.I (by cases hb : zmem a [76, 78, 79, 80] with | true => rfl | false => exact absurd ((zmemN hb).2.symm.trans ha) (by decide)), fun j _ => by rw [zI_ne _ _ (fun e => by rw [← e] at ha; cases ha)]⟩
theorem jTx.V {S S' : ZSt} {b : Nat → Nat} {e : Nat} (h : jTx S b e) (j : zVr S S') : jTx S' b e := ⟨h.1, (j.2 2 (by omega)).trans h.2.1, fun k hk => ⟨(h.2.2 k hk).1, by rw [j.1.2 77 rfl]; exact (h.2.2 k hk).2⟩⟩
theorem jTo.c {S S' : ZSt} {b : Nat → Nat} {e p : Nat} (h : jTo S b e p) (j : zI S' 76 = zI S 76) : jTo S' b e p := by
  unfold jTo
  rw [j]
  exact h
def jRw (S : ZSt) (c : Nat) (f : Nat → Nat) : Prop := ∀ j, j < 6 → zI S c j = nI (f j)
theorem jRw.put {S : ZSt} {c i v : Nat} {f : Nat → Nat} (h : jRw S c f) : jRw (zsI S c i (nI v)) c (upN f i v) := fun j hj => by
  unfold upN
  by_cases e : j = i
  · rw [if_pos e, e, zI_s]
  · rw [if_neg e, zI_o e]
    exact h j hj
theorem jRw.c {S S' : ZSt} {c : Nat} {f : Nat → Nat} (h : jRw S c f) (e : zI S' c = zI S c) : jRw S' c f := fun j hj => by
  rw [e]
  exact h j hj
theorem jTo.S {S : ZSt} {b : Nat → Nat} {e p : Nat} (h : jTo S b e p) (hp : p ≤ e) : jTo S b e (tkS b e p) := by
  obtain ⟨h1, h2, h3, h4, h5⟩ := tk_S (b := b) hp
  unfold jTo
  rw [tkS_tkS hp, h1, h2, h3]
  exact h
theorem nar1 : vp_nar .boolean (nI 1) = nI 1 := by decide
theorem nar0 : vp_nar .boolean (nI 0) = nI 0 := by decide
/-- a semicolon -/
theorem w_Ta_semi {b : Nat → Nat} {e p : Nat} {S : ZSt} {Q : ZOut → ZSt → Prop} (hS : zSh S) (hx : jTx S b e) (hp : p ≤ e) (ht : jTo S b e p) (ok : hr b e p = 59 → ∀ S', zJ7 S S' → jTo S' b e (tkE b e p) → Q (.inl (some (.int (nI 1)))) S') (no : ¬ hr b e p = 59 → Q (.inl (some (.int (nI 0)))) (zsI (zsI S 76 7 (nI 1)) 76 8 (nI (tkS b e p)))) : zC m_Ta_takeSign [.ref 76, .int (nI 59)] S Q := by
  have I := hr_is (b := b) (e := e) (p := p) (c := 59) rfl (by omega)
  exact w_Ta_takeSign (by omega) hS hx hp ht (fun k3 kc S' j' t' => ok (I.mpr ⟨k3, kc⟩) S' j' t') (fun h9 => no (fun z => h9 (I.mp z)))
theorem zVr.bad {S S' : ZSt} {k t : Nat} (j : zVr S S') : zVr S (zsI (zsI S' 76 7 (nI k)) 76 8 (nI t)) := ⟨(j.1.I rfl).I rfl, fun i hi => by rw [zI_o (by omega), zI_o (by omega)]; exact j.2 i hi⟩
theorem vcl_n {b : Nat → Nat} {e p : Nat} {sn : Nat → Nat} (h : ixN (sW 21) (tkW b e p) 0 = none) : vcl b e p sn = .inl (1, tkS b e p) := by
  unfold vcl
  rw [h]
theorem vcl_s {b : Nat → Nat} {e p i : Nat} {sn : Nat → Nat} (h : ixN (sW 21) (tkW b e p) 0 = some i) : vcl b e p sn = if sn i = 1 then .inl (4, tkS b e p) else if i < 4 then (if tkK b e (tkE b e p) = 2 then (if vlo i ≤ tkV b e (tkE b e p) ∧ tkV b e (tkE b e p) ≤ vhi i then (if hr b e (tkE b e (tkE b e p)) = 59 then .inr (i, tkV b e (tkE b e p), tkE b e (tkE b e (tkE b e p))) else .inl (1, tkS b e (tkE b e (tkE b e p)))) else .inl (2, tkS b e (tkE b e p))) else .inl (1, tkS b e (tkE b e p))) else if hr b e (tkE b e p) = 59 then .inr (i, 1, tkE b e (tkE b e p)) else .inl (1, tkS b e (tkE b e p)) := by
  unfold vcl
  rw [h]
theorem w_VR_clause {b : Nat → Nat} {e p : Nat} {sn td : Nat → Nat} {S : ZSt} {Q : ZOut → ZSt → Prop} (hS : zSh S) (hC : zCst S) (hx : jTx S b e) (hp : p ≤ e) (ht : jTo S b e p) (hs : jRw S 80 sn) (h1 : ∀ j, j < 6 → sn j ≤ 1) (hd : jRw S 79 td)
    (bad : ∀ k t, vcl b e p sn = .inl (k, t) → ∀ S', zVr S S' → zI S' 76 7 = nI k → zI S' 76 8 = nI t → Q (.inl (some (.int (nI 0)))) S')
    (ok : ∀ i v q, vcl b e p sn = .inr (i, v, q) → i < 6 → sn i = 0 → q ≤ e → ∀ S', zVr S S' → jTo S' b e q → jRw S' 80 (upN sn i 1) → jRw S' 79 (upN td i v) → zI S' 76 8 = zI S 76 8 → zI S' 78 = zI S 78 → Q (.inl (some (.int (nI 1)))) S') : zC m_VR_readsClause [.ref 78, .ref 76] S Q := by
  have he := hx.1
  obtain ⟨w1, w2⟩ := wix_N (sW 21) (tkW b e p) 0
  refine b_VR_readsClause hS (w_Ta_wordAmong rfl hS hC hx hp ht (b_VR_readsClause_3 hS ?_))
  rw [w1]
  cases hi : ixN (sW 21) (tkW b e p) 0 with
  | none =>
    refine w_N_isNotR rfl hS (fun ⟨k, a1, a2, a3⟩ => absurd a3.symm (nI_m1 (by omega))) (fun _ => b_VR_readsClause_8 hS ⟨fun h9 => absurd h9 (by decide), fun _ => w_Ta_refuse hS (b_VR_readsClause_12 hS ⟨by decide, ?_⟩)⟩)
    rw [ht.1]
    exact bad 1 _ (vcl_n hi) _ zVr.rf.bad (by rw [zI_o (by omega), zI_s]) zI_s
  | some i =>
    have i6 : i < 6 := by
      have := w2 i hi
      rw [sW21] at this
      omega
    have V := vcl_s (b := b) (e := e) (p := p) (sn := sn) hi
    refine w_N_isNotR rfl hS (fun _ => b_VR_readsClause_8 hS ⟨fun _ => ?_, fun h9 => absurd (by decide) h9⟩) (fun h9 => absurd ⟨i, by omega, by omega, rfl⟩ h9)
    rw [zcl9 (by omega), hs i i6]
    have hsi := h1 i i6
    refine ⟨zin i6 (by omega), fun h9 => ⟨zin i6 (by omega), ?_⟩, fun h9 => w_Ta_refuse hS (b_VR_readsClause_21 hS ⟨by decide, ?_⟩)⟩
    · have s0 : sn i = 0 := (nI_z (by omega)).mp h9
      rw [if_neg (show ¬ sn i = 1 by omega)] at V
      rw [nar1]
      have j1 : zVr S (zsI S 80 i (nI 1)) := zVr.I rfl
      have hS1 := j1.1.sh hS
      have hx1 := hx.V j1
      have ht1 : jTo (zsI S 80 i (nI 1)) b e p := ht.c (zI_ne _ _ (by omega))
      refine w_Ta_advance hS1 hx1 (tkE_le hp) ht1.2.1 (fun S2 j2 t2 => b_VR_readsClause_29 (j2.sh hS1) ?_)
      have hp2 := tkE_le (b := b) hp
      have hS2 := j2.sh hS1
      have hx2 := hx1.J j2
      have jv2 := j1.tr j2.v
      have hs2 : jRw S2 80 (upN sn i 1) := hs.put.c (j2.1.2 80 rfl)
      have hd2 : jRw S2 79 td := hd.c ((j2.1.2 79 rfl).trans (zI_ne _ _ (by omega)))
      have c8 : zI S2 76 8 = zI S 76 8 := (j2.2 8 (by omega)).trans (by rw [zI_ne _ _ (by omega)])
      have c78 : zI S2 78 = zI S 78 := (j2.1.2 78 rfl).trans (zI_ne _ _ (by omega))
      -- the end of a clause
      have fin : ∀ (v q : Nat) (S3 : ZSt), zVr S S3 → jTx S3 b e → q ≤ e → jTo S3 b e q → jRw S3 80 (upN sn i 1) → jRw S3 79 (upN td i v) → zI S3 76 8 = zI S 76 8 → zI S3 78 = zI S 78 → (hr b e q = 59 → vcl b e p sn = .inr (i, v, tkE b e q)) → (¬ hr b e q = 59 → vcl b e p sn = .inl (1, tkS b e q)) → ∀ x3 : Int32, zcl 7 m_VR_readsClause m_Ta_takeSign 99 61 [some (.ref 78), some (.ref 76), some (.int (nI i)), some (.int x3)] [] [.ref 76, .int (nI 59)] S3 Q := fun v q S3 k1 k2 k3 k4 k5 k6 k7 k8 k9 k10 x3 => by
        have hS3 := k1.1.sh hS
        refine w_Ta_semi hS3 k2 k3 k4 (fun h8 S4 j4 t4 => b_VR_readsClause_62 (j4.sh hS3) ⟨by decide, ok i v _ (k9 h8) i6 s0 (tkE_le k3) S4 (k1.tr j4.v) t4 (k5.c (j4.1.2 80 rfl)) (k6.c (j4.1.2 79 rfl)) ((j4.2 8 (by omega)).trans k7) ((j4.1.2 78 rfl).trans k8)⟩) (fun h8 => b_VR_readsClause_62 (((zJ.rf (l := [76])).I rfl |>.I rfl |>.sh) hS3) ⟨by decide, bad 1 _ (k10 h8) _ k1.bad (by rw [zI_o (by omega), zI_s]) zI_s⟩)
      by_cases i4 : i < 4
      · obtain ⟨m1, m2, m3, m4⟩ := vlm i i4
        have hC2 := hC.J jv2.1 rfl
        rw [if_pos i4] at V
        rw [zcl9 (by omega), hC2 2 i (by omega) (by omega), hC2 3 i (by omega) (by omega), m1, m2]
        refine ⟨fun h8 => absurd h8 (nI_ge (by omega) (by omega)), fun _ => ⟨fun h8 => absurd h8 (nI_ge (by omega) (by omega)), fun _ => ⟨zin i4 (by omega), zin i4 (by omega), ?_⟩⟩⟩
        have vl := tkV_le (b := b) (e := e) (p := tkE b e p)
        refine w_Ta_takeNumber (by rw [Bool.and_eq_true]; exact ⟨Nat.ble_eq_true_of_le (by omega), Nat.ble_eq_true_of_le (by omega)⟩) hS2 hx2 hp2 t2 (fun k2 l1 l2 _ S3 j3 t3 => b_VR_readsClause_48 (j3.sh hS2) ⟨fun _ => ⟨zin i6 (by omega), ?_⟩, fun h8 => absurd (nI_m1 (by omega)) h8⟩) (fun k2 => b_VR_readsClause_48 (((zJ.rf (l := [76])).I rfl |>.I rfl |>.sh) hS2) ⟨fun h8 => absurd rfl h8, fun _ => ⟨by decide, ?_⟩⟩) (fun k2 l => b_VR_readsClause_48 (((zJ.rf (l := [76])).I rfl |>.I rfl |>.sh) hS2) ⟨fun h8 => absurd rfl h8, fun _ => ⟨by decide, ?_⟩⟩)
        · rw [if_pos k2, if_pos ⟨l1, l2⟩] at V
          rw [zcl9 (by omega)]
          have j4 : zVr S3 (zsI S3 79 i (nI (tkV b e (tkE b e p)))) := zVr.I rfl
          have j3v := jv2.tr j3.v
          refine fin (tkV b e (tkE b e p)) (tkE b e (tkE b e p)) _ (j3v.tr j4) ((hx2.J j3).V j4) (tkE_le hp2) (t3.c (zI_ne _ _ (by omega))) ((hs2.c (j3.1.2 80 rfl)).c (zI_ne _ _ (by omega))) (hd2.c (j3.1.2 79 rfl)).put ?_ ?_ (fun h7 => by rw [if_pos h7] at V; exact V) (fun h7 => by rw [if_neg h7] at V; exact V) _
          · rw [zI_ne _ _ (by omega), j3.2 8 (by omega)]
            exact c8
          · rw [zI_ne _ _ (by omega), j3.1.2 78 rfl]
            exact c78
        · rw [if_neg k2] at V
          exact bad 1 _ V _ jv2.bad (by rw [zI_o (by omega), zI_s]) zI_s
        · rw [if_pos k2, if_neg (by rcases l with l | l; exact l; exact absurd l (nI_m1 (by omega)))] at V
          exact bad 2 _ V _ jv2.bad (by rw [zI_o (by omega), zI_s]) zI_s
      · rw [if_neg i4] at V
        rw [zcl9 (by omega)]
        refine ⟨fun _ => ⟨zin i6 (by omega), ?_⟩, fun h8 => absurd (nI_le (by omega) (by omega)) h8⟩
        have j4 : zVr S2 (zsI S2 79 i (nI 1)) := zVr.I rfl
        exact fin 1 (tkE b e p) _ (jv2.tr j4) (hx2.V j4) hp2 (t2.c (zI_ne _ _ (by omega))) (hs2.c (zI_ne _ _ (by omega))) hd2.put (by rw [zI_ne _ _ (by omega)]; exact c8) ((zI_ne _ _ (by omega)).trans c78) (fun h7 => by rw [if_pos h7] at V; exact V) (fun h7 => by rw [if_neg h7] at V; exact V) _
    · have s1 : sn i = 1 := by
        have : sn i ≠ 0 := fun z => h9 (by rw [z]; rfl)
        omega
      rw [if_pos s1] at V
      rw [ht.1]
      exact bad 4 _ V _ zVr.rf.bad (by rw [zI_o (by omega), zI_s]) zI_s
