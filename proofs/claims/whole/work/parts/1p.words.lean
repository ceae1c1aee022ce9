/-! Strings and words as numbers -/
def sB (r : Nat) : List Nat := (zcon.getD (r + 1) []).map Int32.toNatClampNeg
def sG (r j : Nat) : Nat := (sB r).getD j 0
def sOk (r : Nat) : Bool := ((Nat.beq (zTc r) 15 && Nat.beq (zTc (r + 1)) 103) && ((zTr r 0 == some (r + 1)) && (zcon.getD r []).isEmpty)) && ((Nat.beq (zTn (r + 1)) (sB r).length && (Nat.blt 0 r && Nat.blt r 74)) && (List.range (sB r).length).all (fun j => decide ((zcon.getD (r + 1) []).getD j 0 = nI (sG r j)) && Nat.blt (sG r j) 128))
theorem sOk_all : (List.range 34).all (fun k => sOk (7 + 2 * k) && Nat.blt (sB (7 + 2 * k)).length 60) = true := by decide +kernel
def zStg (S : ZSt) (r n : Nat) (g : Nat → Nat) : Prop := (zc S r = 15 ∧ zR S r 0 = some (r + 1) ∧ zI S r 1 = nI 0) ∧ (zc S (r + 1) = 103 ∧ zn S (r + 1) = n ∧ n < 60) ∧ ∀ j, j < n → zI S (r + 1) j = nI (g j) ∧ g j < 128
theorem zstg {S : ZSt} {r : Nat} (hS : zSh S) (hC : zCst S) (h : (List.range 34).any (fun k => Nat.beq r (7 + 2 * k)) = true) : zStg S r (sB r).length (sG r) := by
  obtain ⟨k, hk, h⟩ := List.any_eq_true.mp h
  have e := Nat.eq_of_beq_eq_true h
  obtain ⟨h, hl⟩ := zand (List.all_eq_true.mp sOk_all k hk)
  rw [← e] at h hl
  obtain ⟨h1, h2⟩ := zand h
  obtain ⟨h11, h12⟩ := zand h1
  obtain ⟨a1, a2⟩ := zand h11
  obtain ⟨a3, a4⟩ := zand h12
  obtain ⟨h21, h22⟩ := zand h2
  obtain ⟨a5, a67⟩ := zand h21
  obtain ⟨a6, a7⟩ := zand a67
  have b1 := Nat.eq_of_beq_eq_true a1
  have b2 := Nat.eq_of_beq_eq_true a2
  have b3 : zTr r 0 = some (r + 1) := eq_of_beq a3
  have b4 : zcon.getD r [] = [] := List.isEmpty_iff.mp a4
  have b5 := Nat.eq_of_beq_eq_true a5
  have b6 : 0 < r := Nat.le_of_ble_eq_true a6
  have b7 : r < 74 := Nat.le_of_ble_eq_true a7
  have b8 : (sB r).length < 60 := Nat.le_of_ble_eq_true hl
  refine ⟨⟨(hS.1 r (by omega)).trans b1, hS.2.2.1 r 0 _ b3, ?_⟩, ⟨(hS.1 (r + 1) (by omega)).trans b2, (hS.2.1 (r + 1) (by omega) (by omega)).trans b5, b8⟩, fun j hj => ?_⟩
  · rw [hC r 1 (by omega) (by omega), b4]
    rfl
  · obtain ⟨c1, c2⟩ := zand (List.all_eq_true.mp h22 j (List.mem_range.mpr hj))
    have c3 : sG r j < 128 := Nat.le_of_ble_eq_true c2
    rw [hC (r + 1) j (by omega) (by omega)]
    exact ⟨of_decide_eq_true c1, c3⟩
theorem zShr0 {n : Nat} (h : n < 1000) : zShr (nI n) (nI 0) = nI n := by
  unfold zShr
  rw [pk_shrN (n := n) (by omega) (nI 0 &&& 31) 0 (by decide +kernel)]
  rw [Nat.pow_zero, Nat.div_one]
theorem w_JS_length {S : ZSt} {r n : Nat} {g : Nat → Nat} {Q : ZOut → ZSt → Prop} (hS : zSh S) (h : zStg S r n g) (hQ : Q (.inl (some (.int (nI n)))) S) : zC m_JS_length [.ref r] S Q := by
  obtain ⟨⟨h1, h2, h3⟩, ⟨h4, h5, h6⟩, h7⟩ := h
  refine b_JS_length hS ⟨h1, r + 1, h2, h4, h1, b_JS_coder hS ⟨fun h9 => absurd h9 (by decide), fun _ => ⟨h1, ?_⟩⟩⟩
  rw [h3]
  refine ⟨by decide, b_JS_length_5 hS ?_⟩
  rw [h5, zShr0 (by omega)]
  exact hQ
theorem zchr : ∀ c, c < 128 → (((nI c) &&& (nI 255)).toUInt32 % 65536).toInt32 = nI c ∧ narrow .char (.int (nI c)) = .int (nI c) := by decide +kernel
theorem w_JS_charAt {S : ZSt} {r n i : Nat} {g : Nat → Nat} {Q : ZOut → ZSt → Prop} (hS : zSh S) (h : zStg S r n g) (hi : i < n) (hQ : Q (.inl (some (.int (nI (g i))))) S) : zC m_JS_charAt [.ref r, .int (nI i)] S Q := by
  obtain ⟨⟨h1, h2, h3⟩, ⟨h4, h5, h6⟩, h7⟩ := h
  obtain ⟨h8, h9⟩ := h7 i hi
  obtain ⟨c1, c2⟩ := zchr (g i) h9
  refine b_JS_charAt hS ⟨h1, b_JS_isLatin1 hS ⟨fun h9 => absurd h9 (by decide), fun _ => ⟨h1, fun h9 => absurd h3 h9, fun _ => ⟨by decide, b_JS_charAt_2 hS ⟨fun h9 => absurd h9 (by decide), fun _ => ⟨h1, r + 1, h2, b_JL_charAt hS ⟨h4, b_JS_checkIndex hS (b_JP_checkIndex hS ⟨fun h9 => absurd h9 (nI_pos (by omega)), fun _ => ⟨fun _ => b_JS_checkIndex_4 hS (b_JL_charAt_4 hS ⟨h4, ?_⟩), fun h9 => absurd (nI_lt (by omega) (by omega)) h9⟩⟩)⟩⟩⟩⟩⟩⟩⟩
  rw [zcl9 (by omega), h8, h5, c1]
  exact ⟨zin hi (by omega), c2, b_JS_charAt_7 hS ⟨c2, hQ⟩⟩
/-- letters as digits to the base 32 -/
def pkS (g : Nat → Nat) : Nat → Nat → Nat → Nat
  | _, 0, v => v
  | p, m + 1, v => pkS g (p + 1) m (32 * v + (g p - 96))
theorem pkS_s {g : Nat → Nat} : ∀ (m p v : Nat), pkS g p (m + 1) v = 32 * pkS g p m v + (g (p + m) - 96)
  | 0, p, v => rfl
  | m + 1, p, v => by
    show pkS g (p + 1) (m + 1) (32 * v + (g p - 96)) = 32 * pkS g (p + 1) m (32 * v + (g p - 96)) + _
    rw [pkS_s m (p + 1), show p + 1 + m = p + (m + 1) by omega]
def isL (c : Nat) : Prop := 97 ≤ c ∧ c ≤ 122
theorem pkS_inj {g h : Nat → Nat} {p q : Nat} : ∀ (m k : Nat), (∀ j, j < m → isL (g (p + j))) → (∀ j, j < k → isL (h (q + j))) → pkS g p m 0 = pkS h q k 0 → m = k ∧ ∀ j, j < m → g (p + j) = h (q + j)
  | 0, 0, _, _, _ => ⟨rfl, fun j hj => absurd hj (Nat.not_lt_zero j)⟩
  | 0, k + 1, _, h2, e => by
    rw [pkS_s] at e
    have := h2 k (by omega)
    unfold isL at this
    have e0 : pkS g p 0 0 = 0 := rfl
    omega
  | m + 1, 0, h1, _, e => by
    rw [pkS_s] at e
    have := h1 m (by omega)
    unfold isL at this
    have e0 : pkS h q 0 0 = 0 := rfl
    omega
  | m + 1, k + 1, h1, h2, e => by
    rw [pkS_s, pkS_s] at e
    have a1 := h1 m (by omega)
    have a2 := h2 k (by omega)
    unfold isL at a1 a2
    obtain ⟨e1, e2⟩ := pkS_inj m k (fun j hj => h1 j (by omega)) (fun j hj => h2 j (by omega)) (by omega)
    subst e1
    refine ⟨rfl, fun j hj => ?_⟩
    by_cases c : j = m
    · subst c
      omega
    · exact e2 j (by omega)
theorem pkS_lt {g : Nat → Nat} : ∀ (m p : Nat), (∀ j, j < m → isL (g (p + j))) → pkS g p m 0 < 32 ^ m
  | 0, p, _ => by
    show 0 < 1
    omega
  | m + 1, p, h => by
    rw [pkS_s, Nat.pow_succ]
    have a1 := h m (by omega)
    unfold isL at a1
    have := pkS_lt m p (fun j hj => h j (by omega))
    omega
/-- the word at p as a number, as the reference reads it -/
def wv (b : Nat → Nat) : Nat → Nat → Nat → Nat → Nat
  | 0, _, v, n => if n ≤ 6 then v else 0
  | f + 1, p, v, n => if kOf (b p) = 1 then wv b f (p + 1) (if n < 6 then 32 * v + (b p - 96) else 0) (n + 1) else if n ≤ 6 then v else 0
def tkW (b : Nat → Nat) (e p : Nat) : Nat := wv b (e - tkS b e p) (tkS b e p) 0 0
theorem kOf_1 {c : Nat} : kOf c = 1 ↔ isL c := by
  unfold kOf isL
  split
  · omega
  · split <;> omega
theorem rnE_ge {b : Nat → Nat} {e kd : Nat} : ∀ f p, p ≤ rnE b e kd f p ∧ rnE b e kd f p ≤ p + f
  | 0, p => ⟨Nat.le_refl _, Nat.le_refl _⟩
  | f + 1, p => by
    have := rnE_ge (b := b) (e := e) (kd := kd) f (p + 1)
    show p ≤ (if _ then _ else _) ∧ (if _ then _ else _) ≤ _
    split <;> omega
theorem rnE_k {b : Nat → Nat} {e kd : Nat} : ∀ f p j, p ≤ j → j < rnE b e kd f p → kOf (b j) = kd
  | 0, p, j, h1, h2 => absurd h2 (Nat.not_lt.mpr h1)
  | f + 1, p, j, h1, h2 => by
    have e0 : rnE b e kd (f + 1) p = if kOf (b p) = kd then rnE b e kd f (p + 1) else p := rfl
    rw [e0] at h2
    by_cases c : kOf (b p) = kd
    · rw [if_pos c] at h2
      by_cases c2 : j = p
      · rw [c2]
        exact c
      · exact rnE_k f (p + 1) j (by omega) h2
    · rw [if_neg c] at h2
      omega
theorem wv_eq {b : Nat → Nat} {e : Nat} : ∀ (f p v n : Nat), wv b f p v n = if n + (rnE b e 1 f p - p) ≤ 6 then pkS b p (rnE b e 1 f p - p) v else 0
  | 0, p, v, n => by
    have e0 : rnE b e 1 0 p = p := rfl
    rw [e0, Nat.sub_self]
    rfl
  | f + 1, p, v, n => by
    have e0 : rnE b e 1 (f + 1) p = if kOf (b p) = 1 then rnE b e 1 f (p + 1) else p := rfl
    have e1 : wv b (f + 1) p v n = if kOf (b p) = 1 then wv b f (p + 1) (if n < 6 then 32 * v + (b p - 96) else 0) (n + 1) else if n ≤ 6 then v else 0 := rfl
    rw [e0, e1]
    by_cases c : kOf (b p) = 1
    · have hg := rnE_ge (b := b) (e := e) (kd := 1) f (p + 1)
      rw [if_pos c, if_pos c, wv_eq f (p + 1)]
      have e2 : rnE b e 1 f (p + 1) - p = rnE b e 1 f (p + 1) - (p + 1) + 1 := by omega
      rw [e2]
      by_cases c2 : n + 1 + (rnE b e 1 f (p + 1) - (p + 1)) ≤ 6
      · rw [if_pos c2, if_pos (by omega), if_pos (by omega)]
        rfl
      · rw [if_neg c2, if_neg (by omega)]
    · rw [if_neg c, if_neg c, Nat.sub_self]
      rfl
