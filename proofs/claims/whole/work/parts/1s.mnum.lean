/-! The reference's numbers and signs -/
def rnM (b : Nat → Nat) : Nat → Nat → Nat → Nat
  | 0, _, v => v
  | f + 1, p, v => if kOf (b p) = 2 then rnM b f (p + 1) (if 9999 < v then 10000 else 10 * v + b p - 48) else v
theorem rnM_V {b : Nat → Nat} {e : Nat} : ∀ (f p v w : Nat), (v = w ∧ v ≤ 99999) ∨ (9999 < v ∧ 9999 < w) → (rnM b f p v = rnV b e f p w ∧ rnM b f p v ≤ 99999) ∨ (9999 < rnM b f p v ∧ 9999 < rnV b e f p w)
  | 0, _, _, _, h => h
  | f + 1, p, v, w, h => by
    have e1 : rnM b (f + 1) p v = if kOf (b p) = 2 then rnM b f (p + 1) (if 9999 < v then 10000 else 10 * v + b p - 48) else v := rfl
    have e2 : rnV b e (f + 1) p w = if kOf (b p) = 2 then rnV b e f (p + 1) (if 10 * w + b p - 48 < 100000 then 10 * w + b p - 48 else 100000) else w := rfl
    rw [e1, e2]
    by_cases c : kOf (b p) = 2
    · rw [if_pos c, if_pos c]
      obtain ⟨d1, d2⟩ := kOf_2.mp c
      refine rnM_V f (p + 1) _ _ ?_
      split <;> split <;> omega
    · rw [if_neg c, if_neg c]
      exact h
theorem rnM_le {b : Nat → Nat} : ∀ (f p v : Nat), v ≤ 99999 → rnM b f p v ≤ 99999
  | 0, _, _, h => h
  | f + 1, p, v, h => by
    have e1 : rnM b (f + 1) p v = if kOf (b p) = 2 then rnM b f (p + 1) (if 9999 < v then 10000 else 10 * v + b p - 48) else v := rfl
    rw [e1]
    by_cases c : kOf (b p) = 2
    · rw [if_pos c]
      obtain ⟨d1, d2⟩ := kOf_2.mp c
      exact rnM_le f (p + 1) _ (by split <;> omega)
    · rw [if_neg c]
      exact h
theorem w_M_rn23 {b : Nat → Nat} {e : Nat} {x1 x2 x3 x4 : Int32} {Q : ZOut → ZSt → Prop} : ∀ (f p v : Nat) {S : ZSt}, zSh S → jMx S b e → f + p = e → v ≤ 99999 → zI S 130 7 = nI p → (∀ S', zK7 S S' → zI S' 130 7 = nI (rnE b e 2 f p) → zW 2 m_M_readNumber 59 [some (.ref 130), some (.int x1), some (.int x2), some (.int x3), some (.int x4), some (.int (nI (rnM b f p v)))] [] S' Q) → zW 2 m_M_readNumber 23 [some (.ref 130), some (.int x1), some (.int x2), some (.int x3), some (.int x4), some (.int (nI v))] [] S Q
  | 0, p, v, S, hS, hx, hf, hv, h7, hQ => by
    have he := hx.1
    refine b_M_readNumber_23 hS ?_
    rw [hx.2.1, h7]
    exact ⟨fun _ => hQ S zK7.rf h7, fun h9 => absurd (nI_le (show e ≤ p by omega) (by omega)) h9⟩
  | f + 1, p, v, S, hS, hx, hf, hv, h7, hQ => by
    have he := hx.1
    have hb := hx.2.2 p (by omega)
    have e0 : rnE b e 2 (f + 1) p = if kOf (b p) = 2 then rnE b e 2 f (p + 1) else p := rfl
    have e1 : rnM b (f + 1) p v = if kOf (b p) = 2 then rnM b f (p + 1) (if 9999 < v then 10000 else 10 * v + b p - 48) else v := rfl
    rw [e0, e1] at hQ
    refine b_M_readNumber_23 hS ?_
    rw [hx.2.1, h7, zcl9 (by omega), hb.2]
    refine ⟨fun h9 => absurd h9 (nI_ge (by omega) (by omega)), fun _ => ⟨zin (by omega) (by omega), w_M_isDigit hb.1 hS (b_M_readNumber_34 hS ?_)⟩⟩
    rw [h7, zcl9 (by omega), hb.2, nI_add]
    by_cases c : kOf (b p) = 2
    · rw [if_pos c] at hQ
      rw [if_pos c] at hQ
      rw [if_pos c]
      obtain ⟨d1, d2⟩ := kOf_2.mp c
      have j : zK7 S (zsI S 130 7 (nI (p + 1))) := zK7.I
      refine ⟨fun h9 => absurd h9 (by decide), fun _ => ⟨fun h9 => ⟨zin (by omega) (by omega), ?_⟩, fun h9 => ?_⟩⟩
      · have h8 := (nI_leI (by omega) (by omega)).mp h9
        rw [if_neg (by omega)] at hQ
        rw [pk_mul, nI_add, pk_sub (by omega)]
        exact w_M_rn23 f (p + 1) (10 * v + b p - 48) (j.sh hS) (hx.J j) (by omega) (by omega) zI_s (fun S' j' => hQ S' (j.tr j'))
      · have h8 : 9999 < v := Classical.not_not.mp (fun z => h9 (nI_le (by omega) (by omega)))
        rw [if_pos h8] at hQ
        exact w_M_rn23 f (p + 1) 10000 (j.sh hS) (hx.J j) (by omega) (by omega) zI_s (fun S' j' => hQ S' (j.tr j'))
    · rw [if_neg c] at hQ
      rw [if_neg c] at hQ
      rw [if_neg c]
      exact ⟨fun _ => hQ S zK7.rf h7, fun h9 => absurd rfl h9⟩
theorem hr_K {b : Nat → Nat} {e p k : Nat} (hk : k = 1 ∨ k = 2) : kOf (hr b e p) = k ↔ tkK b e p = k := by
  unfold hr tkK
  by_cases lt : tkS b e p < e
  · rw [if_pos lt, if_pos lt]
  · rw [if_neg lt, if_neg lt]
    have : kOf 0 = 3 := rfl
    omega
theorem hr_lt {S : ZSt} {b : Nat → Nat} {e p : Nat} (hx : jMx S b e) : hr b e p < 256 := by
  unfold hr
  split
  · exact (hx.2.2 _ (by assumption)).1
  · omega
theorem w_M_readNumber {b : Nat → Nat} {e p lo hi : Nat} {S : ZSt} {Q : ZOut → ZSt → Prop} (hM : (Nat.ble lo 9999 && Nat.ble hi 9999) = true) (hS : zSh S) (hx : jMx S b e) (hp : p ≤ e) (h7 : zI S 130 7 = nI p) (hf : jFn S) (ok : tkK b e p = 2 → lo ≤ tkV b e p → tkV b e p ≤ hi → ∀ S', zK7 S S' → zI S' 130 7 = nI (tkE b e p) → Q (.inl (some (.int (nI (tkV b e p))))) S') (no1 : tkK b e p ≠ 2 → ∀ S', zKB S S' → jBd S' 1 (tkS b e p) → Q (.inl (some (.int (nI 0)))) S') (no2 : tkK b e p = 2 → ¬ (lo ≤ tkV b e p ∧ tkV b e p ≤ hi) → ∀ S', zKB S S' → jBd S' 2 (tkS b e p) → Q (.inl (some (.int (nI 0)))) S') : zC m_M_readNumber [.ref 130, .int (nI lo), .int (nI hi)] S Q := by
  have he := hx.1
  have h1 : lo ≤ 9999 := Nat.le_of_ble_eq_true (zand hM).1
  have h2 : hi ≤ 9999 := Nat.le_of_ble_eq_true (zand hM).2
  obtain ⟨s1, s2⟩ := tkS_le (b := b) hp
  have HK := hr_K (b := b) (e := e) (p := p) (k := 2) (Or.inr rfl)
  refine b_M_readNumber hS (w_M_fine1 hS hf (b_M_readNumber_2 hS ⟨fun _ => w_M_here hS hx hp h7 (fun S1 j1 a1 => b_M_readNumber_7 (j1.sh hS) ?_), fun h9 => absurd (by decide) h9⟩))
  have hS1 := j1.sh hS
  rw [a1]
  refine w_M_isDigit (hr_lt hx) hS1 (b_M_readNumber_15 hS1 ?_)
  by_cases c : tkK b e p = 2
  · rw [if_pos (HK.mpr c)]
    refine ⟨fun _ => w_M_rn23 (e - tkS b e p) (tkS b e p) 0 hS1 (hx.J j1) (by omega) (by omega) a1 (fun S2 j2 a2 => b_M_readNumber_59 (j2.sh hS1) ?_), fun h9 => absurd (by decide) h9⟩
    have eE : tkE b e p = rnE b e 2 (e - tkS b e p) (tkS b e p) := by
      unfold tkE
      rw [if_neg (by omega), c]
    have eV : tkV b e p = rnV b e (e - tkS b e p) (tkS b e p) 0 := by
      unfold tkV
      rw [if_pos c]
    rw [← eE] at a2
    have hR := rnM_V (b := b) (e := e) (e - tkS b e p) (tkS b e p) 0 0 (Or.inl ⟨rfl, by omega⟩)
    have hle := rnM_le (b := b) (e - tkS b e p) (tkS b e p) 0 (by omega)
    rw [← eV] at hR
    have hf2 := (hf.K j1).K j2
    have bad : ¬ (lo ≤ tkV b e p ∧ tkV b e p ≤ hi) → zcl 2 m_M_readNumber m_M_wrong 130 68 [some (.ref 130), some (.int (nI lo)), some (.int (nI hi)), some (.int (nI (hr b e p))), some (.int (nI (tkS b e p))), some (.int (nI (rnM b (e - tkS b e p) (tkS b e p) 0)))] [] [.ref 130, .int (nI 2), .int (nI (tkS b e p))] S2 Q := fun z => w_M_wrong (j2.sh hS1) hf2 (fun S3 j3 d3 => b_M_readNumber_69 (j3.sh (j2.sh hS1)) (no2 c z S3 ((j1.tr j2).B.tr j3) d3))
    refine ⟨fun h9 => bad ?_, fun h9 => ⟨fun h8 => ?_, fun h8 => bad ?_⟩⟩
    · have := (nI_ltI (by omega) (by omega)).mp h9
      omega
    · have g1 : lo ≤ rnM b (e - tkS b e p) (tkS b e p) 0 := Classical.not_not.mp (fun z => h9 (nI_lt (by omega) (by omega)))
      have g2 := (nI_leI (by omega) (by omega)).mp h8
      rw [show rnM b (e - tkS b e p) (tkS b e p) 0 = tkV b e p by omega]
      exact ok c (by omega) (by omega) S2 (j1.tr j2) a2
    · have g2 : ¬ rnM b (e - tkS b e p) (tkS b e p) 0 ≤ hi := fun z => h8 (nI_le z (by omega))
      omega
  · rw [if_neg (fun z => c (HK.mp z))]
    refine ⟨fun h9 => absurd rfl h9, fun _ => ?_⟩
    rw [a1]
    exact w_M_wrong hS1 (hf.K j1) (fun S3 j3 d3 => b_M_readNumber_21 (j3.sh hS1) (no1 c S3 (j1.B.tr j3) d3))
theorem w_M_readNumber0 {k t : Nat} {x y : Int32} {S : ZSt} {Q : ZOut → ZSt → Prop} (hS : zSh S) (h : jBd S k t) (ht : t < 1000) (hQ : Q (.inl (some (.int (nI 0)))) S) : zC m_M_readNumber [.ref 130, .int x, .int y] S Q := b_M_readNumber hS (w_M_fine0 hS h ht (b_M_readNumber_2 hS ⟨fun h9 => absurd rfl h9, fun _ => hQ⟩))
theorem w_M_sign {b : Nat → Nat} {e p c : Nat} {S : ZSt} {Q : ZOut → ZSt → Prop} (hc : c < 256) (hS : zSh S) (hx : jMx S b e) (hp : p ≤ e) (h7 : zI S 130 7 = nI p) (hf : jFn S) (ok : hr b e p = c → ∀ S', zK7 S S' → zI S' 130 7 = nI (tkS b e p + 1) → Q (.inl none) S') (no : hr b e p ≠ c → ∀ S', zKB S S' → jBd S' 1 (tkS b e p) → Q (.inl none) S') : zC m_M_sign [.ref 130, .int (nI c)] S Q := by
  have he := hx.1
  have hl := hr_lt (p := p) hx
  obtain ⟨s1, s2⟩ := tkS_le (b := b) hp
  refine b_M_sign hS (w_M_fine1 hS hf (b_M_sign_2 hS ⟨fun h9 => absurd h9 (by decide), fun _ => w_M_here hS hx hp h7 (fun S1 j1 a1 => b_M_sign_5 (j1.sh hS) ⟨fun h9 => ?_, fun h9 => ?_⟩)⟩))
  · have hS1 := j1.sh hS
    refine w_M_fine1 hS1 (hf.K j1) (b_M_sign_14 hS1 ⟨fun h8 => absurd h8 (by decide), fun _ => ?_⟩)
    rw [a1, nI_add]
    exact ok (nEq (by omega) (by omega) h9) _ (j1.tr zK7.I) zI_s
  · have hS1 := j1.sh hS
    rw [a1]
    refine w_M_wrong hS1 (hf.K j1) (fun S3 j3 d3 => b_M_sign_12 (j3.sh hS1) (w_M_fine0 (j3.sh hS1) d3 (by omega) (b_M_sign_14 (j3.sh hS1) ⟨fun _ => no (fun z => h9 (by rw [z])) S3 (j1.B.tr j3) d3, fun h8 => absurd rfl h8⟩)))
theorem w_M_sign0 {k t : Nat} {x : Int32} {S : ZSt} {Q : ZOut → ZSt → Prop} (hS : zSh S) (h : jBd S k t) (ht : t < 1000) (hQ : Q (.inl none) S) : zC m_M_sign [.ref 130, .int x] S Q := b_M_sign hS (w_M_fine0 hS h ht (b_M_sign_2 hS ⟨fun _ => w_M_fine0 hS h ht (b_M_sign_14 hS ⟨fun _ => hQ, fun h8 => absurd rfl h8⟩), fun h9 => absurd rfl h9⟩))
theorem w_M_isMore {b : Nat → Nat} {e p : Nat} {S : ZSt} {Q : ZOut → ZSt → Prop} (hS : zSh S) (hx : jMx S b e) (hp : p ≤ e) (h7 : zI S 130 7 = nI p) (yes : tkS b e p < e → ∀ S', zK7 S S' → zI S' 130 7 = nI (tkS b e p) → Q (.inl (some (.int (nI 1)))) S') (no : tkS b e p = e → ∀ S', zK7 S S' → zI S' 130 7 = nI (tkS b e p) → Q (.inl (some (.int (nI 0)))) S') : zC m_M_isMore [.ref 130] S Q := by
  have he := hx.1
  obtain ⟨s1, s2⟩ := tkS_le (b := b) hp
  refine b_M_isMore hS (w_M_here hS hx hp h7 (fun S1 j1 a1 => b_M_isMore_2 (j1.sh hS) ?_))
  rw [(hx.J j1).2.1, a1]
  refine ⟨fun h9 => ⟨by decide, no ?_ S1 j1 a1⟩, fun h9 => ⟨by decide, yes ?_ S1 j1 a1⟩⟩
  · have := (nI_leI (by omega) (by omega)).mp h9
    omega
  · exact Classical.not_not.mp (fun z => h9 (nI_le (by omega) (by omega)))
/-- a sign is a byte -/
theorem tkE_3 {b : Nat → Nat} {e p : Nat} (h : tkK b e p = 3) : tkE b e p = tkS b e p + 1 := by
  unfold tkE
  rw [if_pos h]
/-- at the end nothing stands -/
theorem tkK_0 {b : Nat → Nat} {e p : Nat} (hp : p ≤ e) : tkK b e p = 0 ↔ tkS b e p = e := by
  obtain ⟨s1, s2⟩ := tkS_le (b := b) hp
  unfold tkK
  by_cases lt : tkS b e p < e
  · rw [if_pos lt]
    have := kOf_le (c := b (tkS b e p))
    omega
  · rw [if_neg lt]
    omega
theorem tkE_gt {b : Nat → Nat} {e p : Nat} (h : tkS b e p < e) : tkS b e p < tkE b e p := by
  unfold tkE
  split
  · omega
  · have hk : tkK b e p = kOf (b (tkS b e p)) := by
      unfold tkK
      rw [if_pos h]
    rw [hk]
    obtain ⟨f, hf⟩ : ∃ f, e - tkS b e p = f + 1 := ⟨e - tkS b e p - 1, by omega⟩
    rw [hf]
    have e0 : rnE b e (kOf (b (tkS b e p))) (f + 1) (tkS b e p) = if kOf (b (tkS b e p)) = kOf (b (tkS b e p)) then rnE b e (kOf (b (tkS b e p))) f (tkS b e p + 1) else tkS b e p := rfl
    rw [e0, if_pos rfl]
    have := (rnE_ge (b := b) (e := e) (kd := kOf (b (tkS b e p))) f (tkS b e p + 1)).1
    omega
