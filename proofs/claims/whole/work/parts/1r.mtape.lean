/-! The reference's tape -/
def jMx (S : ZSt) (b : Nat → Nat) (e : Nat) : Prop := e ≤ 400 ∧ zI S 130 6 = nI e ∧ ∀ j, j < e → b j < 256 ∧ zI S 134 j = nI (b j)
def zK7 (S S' : ZSt) : Prop := zJ [130] S S' ∧ ∀ j, j ≠ 7 → zI S' 130 j = zI S 130 j
theorem zK7.rf {S : ZSt} : zK7 S S := ⟨zJ.rf, fun _ _ => rfl⟩
theorem zK7.tr {S S1 S2 : ZSt} (h1 : zK7 S S1) (h2 : zK7 S1 S2) : zK7 S S2 := ⟨h1.1.tr h2.1, fun j hj => (h2.2 j hj).trans (h1.2 j hj)⟩
theorem zK7.sh {S S1 : ZSt} (h : zK7 S S1) (hS : zSh S) : zSh S1 := h.1.sh hS
theorem zK7.I {S : ZSt} {v : Int32} : zK7 S (zsI S 130 7 v) := ⟨zJ.rf.I rfl, fun j hj => zI_o hj⟩
theorem jMx.K {S S' : ZSt} {b : Nat → Nat} {e : Nat} (h : jMx S b e) (k6 : zI S' 130 6 = zI S 130 6) (k4 : zI S' 134 = zI S 134) : jMx S' b e := ⟨h.1, k6.trans h.2.1, fun j hj => ⟨(h.2.2 j hj).1, by rw [k4]; exact (h.2.2 j hj).2⟩⟩
theorem jMx.J {S S' : ZSt} {b : Nat → Nat} {e : Nat} (h : jMx S b e) (j : zK7 S S') : jMx S' b e := h.K (j.2 6 (by omega)) (j.1.2 134 rfl)
/-- a fault has been told: where the reader stands no longer matters -/
def zKB (S S' : ZSt) : Prop := zJ [130] S S' ∧ ∀ j, j ≠ 7 → j ≠ 8 → j ≠ 9 → zI S' 130 j = zI S 130 j
theorem zK7.B {S S' : ZSt} (h : zK7 S S') : zKB S S' := ⟨h.1, fun j a _ _ => h.2 j a⟩
theorem zKB.tr {S S1 S2 : ZSt} (h1 : zKB S S1) (h2 : zKB S1 S2) : zKB S S2 := ⟨h1.1.tr h2.1, fun j a1 a2 a3 => (h2.2 j a1 a2 a3).trans (h1.2 j a1 a2 a3)⟩
theorem zKB.sh {S S1 : ZSt} (h : zKB S S1) (hS : zSh S) : zSh S1 := h.1.sh hS
def jBd (S : ZSt) (k t : Nat) : Prop := zI S 130 8 = nI t ∧ zI S 130 9 = nI k
def jFn (S : ZSt) : Prop := zI S 130 8 = - nI 1
theorem jFn.K {S S' : ZSt} (h : jFn S) (j : zK7 S S') : jFn S' := (j.2 8 (by omega)).trans h
theorem w_M_fine1 {S : ZSt} {Q : ZOut → ZSt → Prop} (hS : zSh S) (h : jFn S) (hQ : Q (.inl (some (.int (nI 1)))) S) : zC m_M_fine [.ref 130] S Q := b_M_fine hS ⟨fun h9 => absurd h h9, fun _ => ⟨by decide, hQ⟩⟩
theorem w_M_fine0 {k t : Nat} {S : ZSt} {Q : ZOut → ZSt → Prop} (hS : zSh S) (h : jBd S k t) (ht : t < 1000) (hQ : Q (.inl (some (.int (nI 0)))) S) : zC m_M_fine [.ref 130] S Q := b_M_fine hS ⟨fun _ => ⟨by decide, hQ⟩, fun h9 => absurd (fun e => nI_m1 (show t < 2 ^ 31 by omega) (h.1.symm.trans e)) h9⟩
theorem w_M_wrong {k t : Nat} {S : ZSt} {Q : ZOut → ZSt → Prop} (hS : zSh S) (h : jFn S) (hQ : ∀ S', zKB S S' → jBd S' k t → Q (.inl none) S') : zC m_M_wrong [.ref 130, .int (nI k), .int (nI t)] S Q := b_M_wrong hS ⟨fun _ => hQ _ ⟨(zJ.rf.I rfl).I rfl, fun j a1 a2 a3 => by rw [zI_o a3, zI_o a2]⟩ ⟨by rw [zI_o (by omega), zI_s], zI_s⟩, fun h9 => absurd h h9⟩
theorem w_M_here0 {b : Nat → Nat} {e : Nat} {Q : ZOut → ZSt → Prop} : ∀ (f p : Nat) {S : ZSt}, zSh S → jMx S b e → f + p = e → zI S 130 7 = nI p → (∀ S', zK7 S S' → zI S' 130 7 = nI (skp b e f p) → Q (.inl (some (.int (nI (if skp b e f p < e then b (skp b e f p) else 0))))) S') → zW 1 m_M_here 0 [some (.ref 130)] [] S Q
  | 0, p, S, hS, hx, hf, h7, hQ => by
    have he := hx.1
    have e0 : skp b e 0 p = p := rfl
    rw [e0, if_neg (by omega)] at hQ
    refine b_M_here_0 hS ?_
    rw [hx.2.1, h7]
    exact ⟨fun _ => ⟨fun _ => hQ S zK7.rf h7, fun h9 => absurd (nI_le (show e ≤ p by omega) (by omega)) h9⟩, fun h9 => absurd (nI_le (show e ≤ p by omega) (by omega)) h9⟩
  | f + 1, p, S, hS, hx, hf, h7, hQ => by
    have he := hx.1
    have hb := hx.2.2 p (by omega)
    have e0 : skp b e (f + 1) p = if b p = 32 then skp b e f (p + 1) else p := rfl
    rw [e0] at hQ
    refine b_M_here_0 hS ?_
    rw [hx.2.1, h7, zcl9 (by omega), hb.2, nI_add]
    refine ⟨fun h9 => absurd h9 (nI_ge (by omega) (by omega)), fun _ => ⟨zin (by omega) (by omega), fun h9 => ⟨fun h8 => absurd h8 (nI_ge (by omega) (by omega)), fun _ => ⟨zin (by omega) (by omega), ?_⟩⟩, fun h9 => ?_⟩⟩
    · rw [if_neg (fun e9 => h9 (by rw [e9])), if_pos (by omega)] at hQ
      exact hQ S zK7.rf h7
    · have e9 : b p = 32 := nEq (by omega) (by omega) (Classical.not_not.mp h9)
      rw [if_pos e9] at hQ
      have j : zK7 S (zsI S 130 7 (nI (p + 1))) := zK7.I
      exact w_M_here0 f (p + 1) (j.sh hS) (hx.J j) (by omega) zI_s (fun S' j' => hQ S' (j.tr j'))
theorem w_M_here {b : Nat → Nat} {e p : Nat} {S : ZSt} {Q : ZOut → ZSt → Prop} (hS : zSh S) (hx : jMx S b e) (hp : p ≤ e) (h7 : zI S 130 7 = nI p) (hQ : ∀ S', zK7 S S' → zI S' 130 7 = nI (tkS b e p) → Q (.inl (some (.int (nI (hr b e p))))) S') : zC m_M_here [.ref 130] S Q := w_M_here0 (e - p) p hS hx (by omega) h7 hQ
theorem w_M_isSmall {c : Nat} {S : ZSt} {Q : ZOut → ZSt → Prop} (hc : c < 256) (hS : zSh S) (hQ : Q (.inl (some (.int (nI (if kOf c = 1 then 1 else 0))))) S) : zC m_M_isSmall [.int (nI c)] S Q := by
  refine b_M_isSmall hS (pk_lt c 97 (fun h1 => ⟨by decide, ?_⟩) (fun h1 => pk_lt 122 c (fun h2 => ⟨by decide, ?_⟩) (fun h2 => ⟨by decide, ?_⟩)))
  · rw [if_neg (fun z => by have := kOf_1.mp z; unfold isL at this; omega)] at hQ
    exact hQ
  · rw [if_neg (fun z => by have := kOf_1.mp z; unfold isL at this; omega)] at hQ
    exact hQ
  · rw [if_pos (kOf_1.mpr ⟨h1, h2⟩)] at hQ
    exact hQ
theorem kOf_2 {c : Nat} : kOf c = 2 ↔ (48 ≤ c ∧ c ≤ 57) := by
  unfold kOf
  split
  · omega
  · split <;> omega
theorem w_M_isDigit {c : Nat} {S : ZSt} {Q : ZOut → ZSt → Prop} (hc : c < 256) (hS : zSh S) (hQ : Q (.inl (some (.int (nI (if kOf c = 2 then 1 else 0))))) S) : zC m_M_isDigit [.int (nI c)] S Q := by
  refine b_M_isDigit hS (pk_lt c 48 (fun h1 => ⟨by decide, ?_⟩) (fun h1 => pk_lt 57 c (fun h2 => ⟨by decide, ?_⟩) (fun h2 => ⟨by decide, ?_⟩)))
  · rw [if_neg (fun z => by have := kOf_2.mp z; omega)] at hQ
    exact hQ
  · rw [if_neg (fun z => by have := kOf_2.mp z; omega)] at hQ
    exact hQ
  · rw [if_pos (kOf_2.mpr ⟨h1, h2⟩)] at hQ
    exact hQ
theorem nI_or (a c : Nat) : nI a ||| nI c = nI (a ||| c) := by
  apply Int32.toBitVec_inj.mp
  rw [Int32.toBitVec_or]
  apply BitVec.eq_of_toNat_eq
  rw [BitVec.toNat_or]
  show a % 2 ^ 32 ||| c % 2 ^ 32 = (a ||| c) % 2 ^ 32
  exact Nat.or_mod_two_pow.symm
theorem zpk {v c : Nat} (hv : v < 67108864) (hc : 97 ≤ c ∧ c ≤ 122) : zShl (nI v) (nI 5) ||| (nI c - nI 96) = nI (32 * v + (c - 96)) := by
  unfold zShl
  rw [pk_shlN (n := v) (nI 5 &&& 31) 5 (by decide +kernel) (by omega), pk_sub (by omega), nI_or, Nat.mul_comm, ← Nat.two_pow_add_eq_or_of_lt (by omega)]
theorem p32 {n : Nat} (h : n ≤ 5) : 32 ^ n ≤ 33554432 := by
  rcases (show n = 0 ∨ n = 1 ∨ n = 2 ∨ n = 3 ∨ n = 4 ∨ n = 5 by omega) with rfl | rfl | rfl | rfl | rfl | rfl <;> decide
theorem w_M_wo10 {b : Nat → Nat} {e : Nat} {S : ZSt} {Q : ZOut → ZSt → Prop} (hS : zSh S) (hx : jMx S b e) : ∀ (f p v n : Nat), f + p = e → n ≤ p → (n ≤ 6 → v < 32 ^ n) → Q (.inl (some (.int (nI (wv b f p v n))))) S → zW 2 m_M_word 10 [some (.ref 130), some (.int (nI v)), some (.int (nI n)), some (.int (nI p))] [] S Q
  | 0, p, v, n, hf, hn, hv, hQ => by
    have he := hx.1
    have e0 : wv b 0 p v n = if n ≤ 6 then v else 0 := rfl
    rw [e0] at hQ
    refine b_M_word_10 hS ?_
    rw [hx.2.1]
    refine ⟨fun _ => ⟨fun h9 => ?_, fun h9 => ?_⟩, fun h9 => absurd (nI_le (show e ≤ p by omega) (by omega)) h9⟩
    · rw [if_pos ((nI_leI (by omega) (by omega)).mp h9)] at hQ
      exact hQ
    · rw [if_neg (fun z => h9 ((nI_leI (by omega) (by omega)).mpr z))] at hQ
      exact hQ
  | f + 1, p, v, n, hf, hn, hv, hQ => by
    have he := hx.1
    have hb := hx.2.2 p (by omega)
    have e0 : wv b (f + 1) p v n = if kOf (b p) = 1 then wv b f (p + 1) (if n < 6 then 32 * v + (b p - 96) else 0) (n + 1) else if n ≤ 6 then v else 0 := rfl
    rw [e0] at hQ
    refine b_M_word_10 hS ?_
    rw [hx.2.1, zcl9 (by omega), hb.2]
    refine ⟨fun h9 => absurd h9 (nI_ge (by omega) (by omega)), fun _ => ⟨zin (by omega) (by omega), w_M_isSmall hb.1 hS (b_M_word_19 hS ?_)⟩⟩
    rw [zcl9 (by omega), hb.2, nI_add, nI_add]
    by_cases c : kOf (b p) = 1
    · rw [if_pos c] at hQ
      rw [if_pos c]
      obtain ⟨l1, l2⟩ := kOf_1.mp c
      refine ⟨fun h9 => absurd h9 (by decide), fun _ => ⟨fun h9 => ?_, fun h9 => ⟨zin (by omega) (by omega), ?_⟩⟩⟩
      · have h6 := (nI_leI (by omega) (by omega)).mp h9
        rw [if_neg (by omega)] at hQ
        exact w_M_wo10 hS hx f (p + 1) 0 (n + 1) (by omega) (by omega) (fun _ => Nat.pow_pos (by omega)) hQ
      · have h6 : n < 6 := Classical.not_not.mp (fun z => h9 (nI_le (by omega) (by omega)))
        rw [if_pos h6] at hQ
        have hv6 := hv (by omega)
        have := p32 (n := n) (by omega)
        rw [zpk (by omega) ⟨l1, l2⟩]
        exact w_M_wo10 hS hx f (p + 1) (32 * v + (b p - 96)) (n + 1) (by omega) (by omega) (fun _ => by rw [Nat.pow_succ]; omega) hQ
    · rw [if_neg c] at hQ
      rw [if_neg c]
      refine ⟨fun _ => ⟨fun h9 => ?_, fun h9 => ?_⟩, fun h9 => absurd rfl h9⟩
      · rw [if_pos ((nI_leI (by omega) (by omega)).mp h9)] at hQ
        exact hQ
      · rw [if_neg (fun z => h9 ((nI_leI (by omega) (by omega)).mpr z))] at hQ
        exact hQ
theorem w_M_word {b : Nat → Nat} {e p : Nat} {S : ZSt} {Q : ZOut → ZSt → Prop} (hS : zSh S) (hx : jMx S b e) (hp : p ≤ e) (h7 : zI S 130 7 = nI p) (hQ : ∀ S', zK7 S S' → zI S' 130 7 = nI (tkS b e p) → Q (.inl (some (.int (nI (tkW b e p))))) S') : zC m_M_word [.ref 130] S Q := by
  obtain ⟨s1, s2⟩ := tkS_le (b := b) hp
  refine b_M_word hS (w_M_here hS hx hp h7 (fun S1 j1 a1 => b_M_word_2 (j1.sh hS) ?_))
  rw [a1]
  exact w_M_wo10 (j1.sh hS) (hx.J j1) (e - tkS b e p) (tkS b e p) 0 0 (by omega) (by omega) (fun _ => by decide) (hQ S1 j1 a1)
def sV (r : Nat) : Nat := pkS (sG r) 0 (sB r).length 0
theorem sV_ok : (List.range 25).all (fun k => Nat.ble (sB (25 + 2 * k)).length 6 && (List.range (sB (25 + 2 * k)).length).all (fun j => Nat.ble 97 (sG (25 + 2 * k) j) && Nat.ble (sG (25 + 2 * k) j) 122)) = true := by decide +kernel
theorem w_M_of4 {r n : Nat} {g : Nat → Nat} {S : ZSt} {Q : ZOut → ZSt → Prop} (hS : zSh S) (hg : zStg S r n g) (hn : n ≤ 6) (hL : ∀ j, j < n → isL (g j)) : ∀ (f i v : Nat), f + i = n → v < 32 ^ i → Q (.inl (some (.int (nI (pkS g i f v))))) S → zW 5 m_M_of 4 [some (.ref r), some (.int (nI v)), some (.int (nI i))] [] S Q
  | 0, i, v, hf, hv, hQ => b_M_of_4 hS ⟨hg.1.1, w_JS_length hS hg (b_M_of_7 hS ⟨fun _ => hQ, fun h9 => absurd (nI_le (show n ≤ i by omega) (by omega)) h9⟩)⟩
  | f + 1, i, v, hf, hv, hQ => by
    obtain ⟨l1, l2⟩ := hL i (by omega)
    have := p32 (n := i) (by omega)
    refine b_M_of_4 hS ⟨hg.1.1, w_JS_length hS hg (b_M_of_7 hS ⟨fun h9 => absurd h9 (nI_ge (by omega) (by omega)), fun _ => ⟨hg.1.1, w_JS_charAt hS hg (by omega) (b_M_of_14 hS ?_)⟩⟩)⟩
    rw [zpk (by omega) ⟨l1, l2⟩, nI_add]
    exact w_M_of4 hS hg hn hL f (i + 1) (32 * v + (g i - 96)) (by omega) (by rw [Nat.pow_succ]; omega) hQ
theorem w_M_of {r : Nat} {S : ZSt} {Q : ZOut → ZSt → Prop} (hr' : ((List.range 34).any (fun k => Nat.beq r (7 + 2 * k)) && (List.range 25).any (fun k => Nat.beq r (25 + 2 * k))) = true) (hS : zSh S) (hC : zCst S) (hQ : Q (.inl (some (.int (nI (sV r))))) S) : zC m_M_of [.ref r] S Q := by
  obtain ⟨h1, h2⟩ := zand hr'
  obtain ⟨k, hk, e⟩ := List.any_eq_true.mp h2
  have e := Nat.eq_of_beq_eq_true e
  obtain ⟨a1, a2⟩ := zand (List.all_eq_true.mp sV_ok k hk)
  rw [← e] at a1 a2
  refine b_M_of hS (w_M_of4 hS (zstg hS hC h1) (Nat.le_of_ble_eq_true a1) (fun j hj => ?_) (sB r).length 0 0 (by omega) (by decide) hQ)
  obtain ⟨b1, b2⟩ := zand (List.all_eq_true.mp a2 j (List.mem_range.mpr hj))
  exact ⟨Nat.le_of_ble_eq_true b1, Nat.le_of_ble_eq_true b2⟩
theorem w_M_pass0 {b : Nat → Nat} {e : Nat} {Q : ZOut → ZSt → Prop} : ∀ (f p : Nat) {S : ZSt}, zSh S → jMx S b e → f + p = e → zI S 130 7 = nI p → (∀ S', zK7 S S' → zI S' 130 7 = nI (rnE b e 1 f p) → Q (.inl none) S') → zW 2 m_M_pass 0 [some (.ref 130)] [] S Q
  | 0, p, S, hS, hx, hf, h7, hQ => by
    have he := hx.1
    refine b_M_pass_0 hS ?_
    rw [hx.2.1, h7]
    exact ⟨fun _ => hQ S zK7.rf h7, fun h9 => absurd (nI_le (show e ≤ p by omega) (by omega)) h9⟩
  | f + 1, p, S, hS, hx, hf, h7, hQ => by
    have he := hx.1
    have hb := hx.2.2 p (by omega)
    have e0 : rnE b e 1 (f + 1) p = if kOf (b p) = 1 then rnE b e 1 f (p + 1) else p := rfl
    rw [e0] at hQ
    refine b_M_pass_0 hS ?_
    rw [hx.2.1, h7, zcl9 (by omega), hb.2]
    refine ⟨fun h9 => absurd h9 (nI_ge (by omega) (by omega)), fun _ => ⟨zin (by omega) (by omega), w_M_isSmall hb.1 hS (b_M_pass_11 hS ?_)⟩⟩
    rw [h7, nI_add]
    by_cases c : kOf (b p) = 1
    · rw [if_pos c] at hQ
      rw [if_pos c]
      have j : zK7 S (zsI S 130 7 (nI (p + 1))) := zK7.I
      exact ⟨fun h9 => absurd h9 (by decide), fun _ => w_M_pass0 f (p + 1) (j.sh hS) (hx.J j) (by omega) zI_s (fun S' j' => hQ S' (j.tr j'))⟩
    · rw [if_neg c] at hQ
      rw [if_neg c]
      exact ⟨fun _ => hQ S zK7.rf h7, fun h9 => absurd rfl h9⟩
theorem tkS_tkS {b : Nat → Nat} {e p : Nat} (hp : p ≤ e) : tkS b e (tkS b e p) = tkS b e p := by
  have key : ∀ f p, f + p = e → skp b e f p < e → b (skp b e f p) ≠ 32 := by
    intro f
    induction f with
    | zero =>
      intro p h1 h2
      have e0 : skp b e 0 p = p := rfl
      omega
    | succ f ih =>
      intro p h1 h2
      have e0 : skp b e (f + 1) p = if b p = 32 then skp b e f (p + 1) else p := rfl
      rw [e0] at h2 ⊢
      by_cases c : b p = 32
      · rw [if_pos c] at h2 ⊢
        exact ih (p + 1) (by omega) h2
      · rw [if_neg c]
        exact c
  obtain ⟨s1, s2⟩ := tkS_le (b := b) hp
  by_cases lt : tkS b e p < e
  · have h32 := key (e - p) p (by omega) lt
    have e1 : tkS b e (tkS b e p) = skp b e (e - tkS b e p) (tkS b e p) := rfl
    rw [e1]
    obtain ⟨f, hf⟩ : ∃ f, e - tkS b e p = f + 1 := ⟨e - tkS b e p - 1, by omega⟩
    rw [hf]
    exact if_neg h32
  · have e1 : tkS b e (tkS b e p) = skp b e (e - tkS b e p) (tkS b e p) := rfl
    rw [e1, show e - tkS b e p = 0 by omega]
    rfl
/-- what a place says stays, when its blanks are passed -/
theorem tk_S {b : Nat → Nat} {e p : Nat} (hp : p ≤ e) : tkK b e (tkS b e p) = tkK b e p ∧ tkE b e (tkS b e p) = tkE b e p ∧ tkV b e (tkS b e p) = tkV b e p ∧ tkW b e (tkS b e p) = tkW b e p ∧ hr b e (tkS b e p) = hr b e p := by
  have h := tkS_tkS (b := b) hp
  have hK : tkK b e (tkS b e p) = tkK b e p := by
    unfold tkK
    rw [h]
  refine ⟨hK, ?_, ?_, ?_, ?_⟩
  · unfold tkE
    rw [hK, h]
  · unfold tkV
    rw [hK, h]
  · unfold tkW
    rw [h]
  · unfold hr
    rw [h]
/-- behind a word -/
theorem w_M_pass {b : Nat → Nat} {e p : Nat} {S : ZSt} {Q : ZOut → ZSt → Prop} (hS : zSh S) (hx : jMx S b e) (hp : p ≤ e) (h7 : zI S 130 7 = nI (tkS b e p)) (h1 : tkK b e p = 1) (hQ : ∀ S', zK7 S S' → zI S' 130 7 = nI (tkE b e p) → Q (.inl none) S') : zC m_M_pass [.ref 130] S Q := by
  obtain ⟨s1, s2⟩ := tkS_le (b := b) hp
  rw [tkE_1 h1] at hQ
  exact w_M_pass0 (e - tkS b e p) (tkS b e p) hS hx (by omega) h7 hQ
