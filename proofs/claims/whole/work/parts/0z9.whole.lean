/-! whole numbers that hold no word: the reference's side -/
def bI (b : Bool) : Int32 := if b = true then nI 1 else nI 0
theorem zsl9 : ∀ s, s < 4 → ∀ l, l < 4 → l ≤ s → nI s - nI (l + 1) + nI 1 = nI (s - l) := by decide
theorem wg_lt {w m j : Nat} : wg w m j < 4 := Nat.mod_lt _ (by omega)
theorem w_M_f20 {w m s d l : Nat} {S : ZSt} {Q : ZOut → ZSt → Prop} (hS : zSh S) (hG : ∀ j, j < m → zI S 156 j = nI (wg w m j)) (hm : m ≤ 4) (hs : s < m) (hl : l ≤ s) (hT : (Nat.beq (wg w m l) d && eqs (wg w m) (s - l) l) = true → Q (.inl (some (.int (nI (l + 1))))) S) (hF : (Nat.beq (wg w m l) d && eqs (wg w m) (s - l) l) = false → ∀ u4 u5, zW 1 m_M_follows 4 [some (.ref 130), some (.int (nI s)), some (.int (nI d)), some (.int (nI l)), u4, u5] [] S Q) : ∀ (f j : Nat), f + j = l → zW 1 m_M_follows 20 [some (.ref 130), some (.int (nI s)), some (.int (nI d)), some (.int (nI (l + 1))), some (.int (bI (Nat.beq (wg w m l) d && eqs (wg w m) (s - l) j))), some (.int (nI j))] [] S Q
  | 0, j, hj => by
    obtain rfl : j = l := by omega
    refine b_M_follows_20 hS ?_
    rw [zsub1 (by omega), show j + 1 - 1 = j by omega]
    refine ⟨fun _ => ⟨fun h9 => ?_, fun h9 => ?_⟩, fun h9 => absurd (nI_le (Nat.le_refl _) (by omega)) h9⟩
    · rw [← Int32.sub_eq_add_neg, zsub1 (by omega), show j + 1 - 1 = j by omega]
      refine hF ?_ _ _
      cases hb : (Nat.beq (wg w m j) d && eqs (wg w m) (s - j) j) with
      | false => rfl
      | true =>
        rw [hb] at h9
        exact absurd h9 (by decide)
    · refine hT ?_
      cases hb : (Nat.beq (wg w m j) d && eqs (wg w m) (s - j) j) with
      | true => rfl
      | false =>
        rw [hb] at h9
        exact absurd (by decide) h9
  | f + 1, j, hj => by
    refine b_M_follows_20 hS ?_
    rw [zsub1 (by omega), show l + 1 - 1 = l by omega, zsl9 s (by omega) l (by omega) hl, nI_add, nI_add, zcl9 (by omega), zcl9 (by omega), hG j (by omega), hG (s - l + j) (by omega)]
    have ih := w_M_f20 hS hG hm hs hl hT hF f (j + 1) (by omega)
    have e : eqs (wg w m) (s - l) (j + 1) = (eqs (wg w m) (s - l) j && Nat.beq (wg w m j) (wg w m (s - l + j))) := rfl
    rw [e, ← Bool.and_assoc] at ih
    refine ⟨fun h9 => absurd h9 (nI_ge (by omega) (by omega)), fun _ => ⟨fun h9 => ?_, fun h9 => ⟨zin (by omega) (by omega), zin (by omega) (by omega), fun h8 => ?_, fun h8 => ?_⟩⟩⟩
    · cases hb : (Nat.beq (wg w m l) d && eqs (wg w m) (s - l) j) with
      | false =>
        rw [hb] at ih
        exact ih
      | true =>
        rw [hb] at h9
        exact absurd h9 (by decide)
    · have hb : Nat.beq (wg w m j) (wg w m (s - l + j)) = false := by
        cases hb : Nat.beq (wg w m j) (wg w m (s - l + j)) with
        | false => rfl
        | true => exact absurd (by rw [Nat.eq_of_beq_eq_true hb]) h8
      rw [hb, Bool.and_false] at ih
      exact ih
    · have hb : Nat.beq (wg w m j) (wg w m (s - l + j)) = true := by
        rw [nEq (by have := wg_lt (w := w) (m := m) (j := j); omega) (by have := wg_lt (w := w) (m := m) (j := s - l + j); omega) (Classical.not_not.mp h8)]
        exact Nat.beq_refl _
      rw [hb, Bool.and_true] at ih
      cases hc : (Nat.beq (wg w m l) d && eqs (wg w m) (s - l) j) with
      | true =>
        rw [hc] at ih
        exact ih
      | false =>
        rw [hc] at h9
        exact absurd (by decide) h9
theorem w_M_f4 {w m s d : Nat} {S : ZSt} {Q : ZOut → ZSt → Prop} (hS : zSh S) (hG : ∀ j, j < m → zI S 156 j = nI (wg w m j)) (hm : m ≤ 4) (hs : s < m) (hd : d < 4) (hQ : Q (.inl (some (.int (nI (dl w m s d))))) S) : ∀ (l : Nat) {u4 u5 : Option Value}, l ≤ s + 1 → fW (wg w m) s d l = dl w m s d → zW 1 m_M_follows 4 [some (.ref 130), some (.int (nI s)), some (.int (nI d)), some (.int (nI l)), u4, u5] [] S Q
  | 0, u4, u5, hl, hf => by
    refine b_M_follows_4 hS ⟨fun _ => ?_, fun h9 => absurd (by decide) h9⟩
    have : dl w m s d = 0 := hf.symm
    rw [this] at hQ
    exact hQ
  | l + 1, u4, u5, hl, hf => by
    refine b_M_follows_4 hS ⟨fun h9 => absurd h9 (nI_ge (a := 0) (by omega) (by omega)), fun _ => ?_⟩
    rw [zsub1 (by omega), show l + 1 - 1 = l by omega, zcl9 (by omega), hG l (by omega)]
    have e : fW (wg w m) s d (l + 1) = if (Nat.beq (wg w m l) d && eqs (wg w m) (s - l) l) = true then l + 1 else fW (wg w m) s d l := rfl
    rw [e] at hf
    have main := w_M_f20 (d := d) (Q := Q) hS hG hm hs (show l ≤ s by omega) (fun h => by
      rw [if_pos h] at hf
      rw [hf]
      exact hQ) (fun h u4 u5 => by
      rw [if_neg (by rw [h]; decide)] at hf
      exact w_M_f4 hS hG hm hs hd hQ l (by omega) hf) l 0 (by omega)
    refine ⟨zin (by omega) (by omega), fun h9 => ?_, fun h9 => ?_⟩
    · have hb : Nat.beq (wg w m l) d = false := by
        cases hb : Nat.beq (wg w m l) d with
        | false => rfl
        | true => exact absurd (by rw [Nat.eq_of_beq_eq_true hb]) h9
      rw [hb] at main
      exact main
    · have hb : Nat.beq (wg w m l) d = true := by
        rw [nEq (by have := wg_lt (w := w) (m := m) (j := l); omega) (by omega) (Classical.not_not.mp h9)]
        exact Nat.beq_refl _
      rw [hb] at main
      exact main
theorem w_M_follows {w m s d : Nat} {S : ZSt} {Q : ZOut → ZSt → Prop} (hS : zSh S) (hG : ∀ j, j < m → zI S 156 j = nI (wg w m j)) (hm : m ≤ 4) (hs : s < m) (hd : d < 4) (hQ : Q (.inl (some (.int (nI (dl w m s d))))) S) : zC m_M_follows [.ref 130, .int (nI s), .int (nI d)] S Q := by
  refine b_M_follows hS ?_
  rw [nI_add]
  exact w_M_f4 hS hG hm hs hd hQ (s + 1) (Nat.le_refl _) rfl
theorem dl_le {w m s d : Nat} (hs : s < m) : dl w m s d ≤ m := by
  have : ∀ l, l ≤ s + 1 → fW (wg w m) s d l ≤ l := by
    intro l
    induction l with
    | zero => intro _; exact Nat.le_refl _
    | succ l ih =>
      intro h
      unfold fW
      split
      · omega
      · have := ih (by omega)
        omega
  have := this (s + 1) (Nat.le_refl _)
  unfold dl
  omega
/-! frames -/
def zX (S S' : ZSt) : Prop := S'.1 = S.1 ∧ S'.2.2 = S.2.2 ∧ ∀ c, c ≠ 158 → c ≠ 159 → zL S' c = zL S c
theorem zX.rf {S : ZSt} : zX S S := ⟨rfl, rfl, fun _ _ _ => rfl⟩
theorem zX.tr {S S1 S2 : ZSt} (h1 : zX S S1) (h2 : zX S1 S2) : zX S S2 := ⟨h2.1.trans h1.1, h2.2.1.trans h1.2.1, fun c a b => (h2.2.2 c a b).trans (h1.2.2 c a b)⟩
theorem zX.L {S : ZSt} {a k : Nat} {v : Int64} (ha : a = 158 ∨ a = 159) : zX S (zsL S a k v) := ⟨rfl, rfl, fun c a b => zup_ne (by omega)⟩
theorem zX.sh {S S1 : ZSt} (h : zX S S1) (hS : zSh S) : zSh S1 := by
  have e1 : zc S1 = zc S := by show S1.2.2.2.2.1 = S.2.2.2.2.1; rw [h.2.1]
  have e2 : zn S1 = zn S := by show S1.2.2.2.1 = S.2.2.2.1; rw [h.2.1]
  have e3 : zR S1 = zR S := by show S1.2.2.1 = S.2.2.1; rw [h.2.1]
  have e4 : zx S1 = zx S := by show S1.2.2.2.2.2.1 = S.2.2.2.2.2.1; rw [h.2.1]
  unfold zSh
  rw [e1, e2, e3, e4]
  exact hS
theorem zX.I {S S1 : ZSt} (h : zX S S1) : zI S1 = zI S := h.1
def zK9 (S : ZSt) (w m n len : Nat) : Prop := zSh S ∧ (∀ j, j < m → zI S 156 j = nI (wg w m j)) ∧ (∀ p, p < len → zI S 157 p = nI (n / 4 ^ (len - 1 - p) % 4)) ∧ zI S 130 58 = nI m
theorem zX.k9 {S S1 : ZSt} {w m n len : Nat} (h : zX S S1) (hk : zK9 S w m n len) : zK9 S1 w m n len := ⟨h.sh hk.1, fun j hj => by rw [h.I]; exact hk.2.1 j hj, fun j hj => by rw [h.I]; exact hk.2.2.1 j hj, by rw [h.I]; exact hk.2.2.2⟩
def zEL (m : Nat) (S : ZSt) (c : Nat) (N : Nat → Nat) : Prop := (∀ j, j < 4 → zL S c j = lN (N j)) ∧ ∀ j, m ≤ j → N j = 0
theorem zL_eq (S : ZSt) (a k : Nat) (v : Int64) : zL (zsL S a k v) a k = v := by
  have : zL (zsL S a k v) a = vp_updL (zL S a) k v := va_up_self (zL S) a _
  rw [this]
  simp [vp_updL]
theorem zL_o {S : ZSt} {a k j : Nat} {v : Int64} (h : j ≠ k) : zL (zsL S a k v) a j = zL S a j := by
  have : zL (zsL S a k v) a = vp_updL (zL S a) k v := va_up_self (zL S) a _
  rw [this]
  simp [vp_updL, h]
theorem zEL.add {m c s0 : Nat} {S : ZSt} {N : Nat → Nat} (h : zEL m S 159 N) (hs : s0 < m) (hm : m ≤ 4) : ∃ N', zEL m (zsL S 159 s0 (zL S 159 s0 + lN c)) 159 N' ∧ ∀ j, j < m → N' j = N j + (if s0 = j then 1 else 0) * c := by
  refine ⟨fun j => N j + (if s0 = j then 1 else 0) * c, ⟨fun j hj => ?_, fun j hj => ?_⟩, fun _ _ => rfl⟩
  · show _ = lN (N j + (if s0 = j then 1 else 0) * c)
    by_cases e : j = s0
    · rw [e, zL_eq, h.1 s0 (by omega), lN_add, if_pos rfl, Nat.one_mul]
    · rw [zL_o e, if_neg (fun e2 => e e2.symm), Nat.zero_mul]
      exact h.1 j hj
  · show N j + (if s0 = j then 1 else 0) * c = 0
    rw [h.2 j hj, if_neg (by omega), Nat.zero_mul]

/-- one digit's part -/
def I1 (w m s d j : Nat) : Nat := if dl w m s d = j then 1 else 0
def cD (w m : Nat) (P : Nat → Nat) (pos t g j d : Nat) : Nat := sumF (fun s => I1 w m s d j * P s) m + (if 0 < d ∧ 0 < pos then I1 w m 0 d j else 0) + (if d < g ∧ (0 < pos ∨ 0 < d) ∧ t ≠ m then I1 w m t d j else 0)
def tI (m t : Nat) : Int32 := if t = m then - nI 1 else nI t
theorem zX.p8 {m : Nat} {S : ZSt} {P : Nat → Nat} {k : Nat} {v : Int64} (h : zEL m S 158 P) : zEL m (zsL S 159 k v) 158 P := ⟨fun j hj => by
  have e : zL (zsL S 159 k v) 158 = zL S 158 := zup_ne (f := zL S) (k := 159) (j := 158) (v := vp_updL (zL S 159) k v) (by omega)
  rw [e]
  exact h.1 j hj, h.2⟩
theorem w_M_w114 {n w m len d : Nat} {P N0 : Nat → Nat} {x3 x4 x5 : Int32} {Q : ZOut → ZSt → Prop} (hm : m ≤ 4) (hd : d < 4) : ∀ (f s : Nat) {S : ZSt} {N : Nat → Nat} {u8 : Option Value}, zK9 S w m n len → zEL m S 158 P → zEL m S 159 N → f + s = m → (∀ j, j < m → N j = N0 j + sumF (fun s => I1 w m s d j * P s) s) → (∀ S' N', zX S S' → zEL m S' 158 P → zEL m S' 159 N' → (∀ j, j < m → N' j = N0 j + sumF (fun s => I1 w m s d j * P s) m) → ∀ u7 u8, zC m_M_follows [.ref 130, .int (nI 0), .int (nI d)] S' (zback m_M_whole 251 143 [some (.ref 130), some (.int (nI n)), some (.int (nI w)), some (.int x3), some (.int x4), some (.int x5), some (.int (nI d)), some (.int u7), u8] [] (fun i1 l1 s1 S1 => zW 2 m_M_whole i1 l1 s1 S1 Q) (fun x S1 => Q (.inr x) S1))) → zW 2 m_M_whole 114 [some (.ref 130), some (.int (nI n)), some (.int (nI w)), some (.int x3), some (.int x4), some (.int x5), some (.int (nI d)), some (.int (nI s)), u8] [] S Q
  | 0, s, S, N, u8, hK, hP, hN, hs, hj, hQ => by
    obtain rfl : s = m := by omega
    refine b_M_whole_114 hK.1 ?_
    rw [hK.2.2.2]
    exact ⟨fun _ => hQ S N zX.rf hP hN hj _ _, fun h9 => absurd (nI_le (Nat.le_refl _) (by omega)) h9⟩
  | f + 1, s, S, N, u8, hK, hP, hN, hs, hj, hQ => by
    refine b_M_whole_114 hK.1 ?_
    rw [hK.2.2.2]
    refine ⟨fun h9 => absurd h9 (nI_ge (by omega) (by omega)), fun _ => w_M_follows hK.1 hK.2.1 hm (by omega) hd (b_M_whole_122 hK.1 ?_)⟩
    have hl := dl_le (w := w) (d := d) (show s < m by omega)
    rw [hK.2.2.2, nI_add]
    refine ⟨fun h9 => ?_, fun h9 => ⟨zin ?_ (by omega), zin (by omega) (by omega), zin ?_ (by omega), ?_⟩⟩
    · have e : dl w m s d = m := Nat.le_antisymm hl (Nat.not_lt.mp (fun h8 => nI_ge h8 (by omega) h9))
      refine w_M_w114 hm hd f (s + 1) hK hP hN (by omega) (fun j hj9 => ?_) hQ
      rw [hj j hj9]
      show _ = _ + (sumF (fun s => I1 w m s d j * P s) s + I1 w m s d j * P s)
      have : I1 w m s d j = 0 := if_neg (by omega)
      rw [this, Nat.zero_mul]
      rfl
    all_goals have hlt : dl w m s d < m := Nat.not_le.mp (fun h8 => h9 (nI_le h8 (by omega)))
    · omega
    · omega
    · rw [zcl9 (by omega), zcl9 (by omega), hP.1 s (by omega)]
      obtain ⟨N', n1, n2⟩ := hN.add (c := P s) hlt hm
      have j1 : zX S (zsL S 159 (dl w m s d) (zL S 159 (dl w m s d) + lN (P s))) := zX.L (Or.inr rfl)
      refine w_M_w114 hm hd f (s + 1) (j1.k9 hK) (zX.p8 hP) n1 (by omega) (fun j hj9 => ?_) (fun S' N' z => hQ S' N' (j1.tr z))
      rw [n2 j hj9, hj j hj9]
      show _ = _ + (sumF (fun s => I1 w m s d j * P s) s + I1 w m s d j * P s)
      rw [Nat.add_assoc]
      rfl
/-- one digit -/
theorem w_M_w109 {n w m len pos t g : Nat} {P : Nat → Nat} {x3 : Int32} {Q : ZOut → ZSt → Prop} (hm : m ≤ 4) (h1 : 1 ≤ m) (ht : t ≤ m) (hg : n / 4 ^ (len - 1 - pos) % 4 = g) (hp : pos < len) (hl : len ≤ 15) : ∀ (f d : Nat) {S : ZSt} {N : Nat → Nat} {u7 u8 : Option Value}, zK9 S w m n len → zEL m S 158 P → zEL m S 159 N → f + d = 4 → (∀ j, j < m → N j = sumF (cD w m P pos t g j) d) → (∀ S' N', zX S S' → zEL m S' 158 P → zEL m S' 159 N' → (∀ j, j < m → N' j = sumF (cD w m P pos t g j) 4) → ∀ u7 u8, zW 2 m_M_whole 213 [some (.ref 130), some (.int (nI n)), some (.int (nI w)), some (.int x3), some (.int (tI m (if t = m then m else dl w m t g))), some (.int (nI pos)), some (.int (nI 0)), u7, u8] [] S' Q) → zW 2 m_M_whole 109 [some (.ref 130), some (.int (nI n)), some (.int (nI w)), some (.int x3), some (.int (tI m t)), some (.int (nI pos)), some (.int (nI d)), u7, u8] [] S Q
  | 0, d, S, N, u7, u8, hK, hP, hN, hd, hj, hQ => by
    obtain rfl : d = 4 := by omega
    have hq := hQ S N zX.rf hP hN hj
    refine b_M_whole_109 hK.1 ⟨fun _ => ⟨fun h9 => ?_, fun h9 => ⟨zin (by omega) (by omega), ?_⟩⟩, fun h9 => absurd (nI_le (Nat.le_refl _) (by omega)) h9⟩
    · have e : t = m := by
        by_cases e : t = m
        · exact e
        · unfold tI at h9
          rw [if_neg e] at h9
          exact absurd h9 (zneq1 (by omega))
      rw [if_pos e] at hq
      rw [e]
      exact hq _ _
    · have e : ¬ t = m := fun e => h9 (by unfold tI; rw [if_pos e])
      have e2 : tI m t = nI t := if_neg e
      rw [if_neg e] at hq
      rw [zcl9 (by omega), hK.2.2.1 pos hp, hg, e2]
      have hg4 : g < 4 := by rw [← hg]; exact Nat.mod_lt _ (by omega)
      refine w_M_follows hK.1 hK.2.1 hm (by omega) hg4 (b_M_whole_204 hK.1 ?_)
      rw [hK.2.2.2]
      have hdl := dl_le (w := w) (d := g) (show t < m by omega)
      refine ⟨fun h8 => ?_, fun h8 => ?_⟩
      · have e3 : tI m (dl w m t g) = nI (dl w m t g) := if_neg (fun e3 => h8 (by rw [e3]))
        rw [e3] at hq
        exact hq _ _
      · have e3 : tI m (dl w m t g) = - nI 1 := if_pos (nEq (by omega) (by omega) (Classical.not_not.mp h8))
        rw [e3] at hq
        exact hq _ _
  | f + 1, d, S, N, u7, u8, hK, hP, hN, hd, hj, hQ => by
    refine b_M_whole_109 hK.1 ⟨fun h9 => absurd h9 (nI_ge (by omega) (by omega)), fun _ => ?_⟩
    refine w_M_w114 hm (by omega) m 0 (N0 := N) hK hP hN (by omega) (fun j _ => rfl) (fun S1 N1 z1 hP1 hN1 hj1 u7 u8 => ?_)
    have hK1 := z1.k9 hK
    -- the last piece: with what was added, the next digit
    have next : ∀ {S2 : ZSt} {N2 : Nat → Nat} {u7 u8 : Option Value}, zX S1 S2 → zEL m S2 158 P → zEL m S2 159 N2 → (∀ j, j < m → N2 j = N1 j + (if 0 < d ∧ 0 < pos then I1 w m 0 d j else 0) + (if d < g ∧ (0 < pos ∨ 0 < d) ∧ t ≠ m then I1 w m t d j else 0)) → zW 2 m_M_whole 109 [some (.ref 130), some (.int (nI n)), some (.int (nI w)), some (.int x3), some (.int (tI m t)), some (.int (nI pos)), some (.int (nI (d + 1))), u7, u8] [] S2 Q := fun {S2 N2 u7 u8} z2 hP2 hN2 hj2 => by
      refine w_M_w109 hm h1 ht hg hp hl f (d + 1) (z2.k9 hK1) hP2 hN2 (by omega) (fun j hj9 => ?_) (fun S' N' z => hQ S' N' ((z1.tr z2).tr z))
      rw [hj2 j hj9, hj1 j hj9, hj j hj9]
      show _ = sumF (cD w m P pos t g j) d + cD w m P pos t g j d
      unfold cD
      omega
    -- behind the second piece
    have second : ∀ {S2 : ZSt} {N2 : Nat → Nat} {x7 : Int32} {u8 : Option Value}, zX S1 S2 → zEL m S2 158 P → zEL m S2 159 N2 → (∀ j, j < m → N2 j = N1 j + (if 0 < d ∧ 0 < pos then I1 w m 0 d j else 0)) → zW 2 m_M_whole 161 [some (.ref 130), some (.int (nI n)), some (.int (nI w)), some (.int x3), some (.int (tI m t)), some (.int (nI pos)), some (.int (nI d)), some (.int x7), u8] [] S2 Q := fun {S2 N2 x7 u8} z2 hP2 hN2 hj2 => by
      have hK2 := z2.k9 hK1
      refine b_M_whole_161 hK2.1 ⟨zin (by omega) (by omega), ?_⟩
      rw [zcl9 (by omega), hK2.2.2.1 pos hp, hg, nI_add]
      have none : ¬ (d < g ∧ (0 < pos ∨ 0 < d) ∧ t ≠ m) → ∀ {u7 : Option Value}, zW 2 m_M_whole 109 [some (.ref 130), some (.int (nI n)), some (.int (nI w)), some (.int x3), some (.int (tI m t)), some (.int (nI pos)), some (.int (nI (d + 1))), u7, u8] [] S2 Q := fun hno {u7} => next z2 hP2 hN2 (fun j hj9 => by rw [hj2 j hj9, if_neg hno]; rfl)
      have one : d < g ∧ (0 < pos ∨ 0 < d) → ¬ tI m t = - nI 1 → zC m_M_follows [.ref 130, .int (tI m t), .int (nI d)] S2 (zback m_M_whole 319 177 [some (.ref 130), some (.int (nI n)), some (.int (nI w)), some (.int x3), some (.int (tI m t)), some (.int (nI pos)), some (.int (nI d)), some (.int x7), u8] [] (fun i1 l1 s1 S1 => zW 2 m_M_whole i1 l1 s1 S1 Q) (fun x S1 => Q (.inr x) S1)) := fun ha hb => by
        have e : ¬ t = m := fun e => hb (by unfold tI; rw [if_pos e])
        have e2 : tI m t = nI t := if_neg e
        have hdl := dl_le (w := w) (d := d) (show t < m by omega)
        have hyes : d < g ∧ (0 < pos ∨ 0 < d) ∧ t ≠ m := ⟨ha.1, ha.2, e⟩
        have nx := fun {S3 N3 u7} => next (S2 := S3) (N2 := N3) (u7 := u7) (u8 := u8)
        rw [e2] at nx
        rw [e2]
        refine w_M_follows hK2.1 hK2.2.1 hm (by omega) (by omega) (b_M_whole_178 hK2.1 ?_)
        rw [hK2.2.2.2, nI_add]
        refine ⟨fun h9 => ?_, fun h9 => w_M_follows hK2.1 hK2.2.1 hm (by omega) (by omega) (b_M_whole_187 hK2.1 ?_)⟩
        · have e3 : dl w m t d = m := Nat.le_antisymm hdl (Nat.not_lt.mp (fun h8 => nI_ge h8 (by omega) h9))
          exact nx z2 hP2 hN2 (fun j hj9 => by
            rw [hj2 j hj9, if_pos hyes]
            have : I1 w m t d j = 0 := if_neg (by omega)
            rw [this]
            rfl)
        · have hlt : dl w m t d < m := Nat.not_le.mp (fun h8 => h9 (nI_le h8 (by omega)))
          rw [zcl9 (by omega), nI_add]
          obtain ⟨N', n1, n2⟩ := hN2.add (c := 1) hlt hm
          exact ⟨zin (by omega) (by omega), zin (by omega) (by omega), nx (z2.tr (zX.L (Or.inr rfl))) (zX.p8 hP2) n1 (fun j hj9 => by
            rw [n2 j hj9, hj2 j hj9, if_pos hyes, Nat.mul_one]
            rfl)⟩
      refine ⟨fun h9 => none (fun hc => nI_ge hc.1 (by have := Nat.mod_lt (n / 4 ^ (len - 1 - pos)) (show 4 > 0 by omega); omega) h9), fun h9 => ?_⟩
      have hdg : d < g := Nat.not_le.mp (fun h8 => h9 (nI_le h8 (by omega)))
      refine ⟨fun h8 => ⟨fun h7 => none (fun hc => ?_), fun h7 => one ⟨hdg, Or.inl ?_⟩ h7⟩, fun h8 => ⟨fun h7 => none (fun hc => ?_), fun h7 => ⟨fun h6 => none (fun hc => ?_), fun h6 => one ⟨hdg, Or.inr ?_⟩ h6⟩⟩⟩
      · unfold tI at h7
        rw [if_neg hc.2.2] at h7
        exact zneq1 (by omega) h7
      · exact Nat.pos_of_ne_zero (fun e => by rw [e] at h8; exact absurd h8 (by decide))
      · rcases hc.2.1 with a | a
        · exact h8 (nI_lt (a := 0) a (by omega))
        · exact nI_ge (a := 0) a (by omega) h7
      · unfold tI at h6
        rw [if_neg hc.2.2] at h6
        exact zneq1 (by omega) h6
      · exact Nat.pos_of_ne_zero (fun e => h7 (by rw [e]; decide))
    refine w_M_follows hK1.1 hK1.2.1 hm (by omega) (by omega) (b_M_whole_144 hK1.1 ?_)
    have hdl := dl_le (w := w) (d := d) (show 0 < m by omega)
    rw [hK1.2.2.2]
    refine ⟨fun h9 => ?_, fun h9 => ⟨fun h8 => ?_, fun h8 => ⟨fun h7 => ?_, fun h7 => ?_⟩⟩⟩
    · exact second zX.rf hP1 hN1 (fun j _ => by rw [if_neg (fun hc => nI_ge (a := 0) hc.1 (by omega) h9)]; rfl)
    · exact second zX.rf hP1 hN1 (fun j _ => by rw [if_neg (fun hc => nI_ge (a := 0) hc.2 (by omega) h8)]; rfl)
    · have e3 : dl w m 0 d = m := Nat.le_antisymm hdl (Nat.not_lt.mp (fun h8 => nI_ge h8 (by omega) h7))
      exact second zX.rf hP1 hN1 (fun j _ => by
        have : I1 w m 0 d j = 0 := if_neg (by omega)
        rw [this]
        split <;> rfl)
    · have hlt : dl w m 0 d < m := Nat.not_le.mp (fun h8 => h7 (nI_le h8 (by omega)))
      have hyes : 0 < d ∧ 0 < pos := ⟨Nat.pos_of_ne_zero (fun e => h9 (by rw [e]; decide)), Nat.pos_of_ne_zero (fun e => h8 (by rw [e]; decide))⟩
      rw [zcl9 (by omega)]
      obtain ⟨N', n1, n2⟩ := hN1.add (c := 1) hlt hm
      exact ⟨zin (by omega) (by omega), zin (by omega) (by omega), second (zX.L (Or.inr rfl)) (zX.p8 hP1) n1 (fun j hj9 => by
        rw [n2 j hj9, if_pos hyes, Nat.mul_one]
        rfl)⟩
