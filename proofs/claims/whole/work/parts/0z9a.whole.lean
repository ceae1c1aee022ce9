/-! whole numbers that hold no word: the reference's loops, and both alike -/
theorem rW_ar {A I0 It : Nat → Nat} {z g pos n t m : Nat} (h0 : I0 0 = z) (hg : g < 4) (hpn : pos = 0 ∨ 0 < n) (hn2 : pos = 0 → (0 < n ↔ 0 < g)) (hp0 : pos = 0 → (t ≠ m ∧ It = I0 ∧ ∀ d, A d = 0)) : sumF (fun d => A d + (if 0 < d ∧ 0 < pos then I0 d else 0) + (if d < g ∧ (0 < pos ∨ 0 < d) ∧ t ≠ m then It d else 0)) 4 + z * (if 0 < pos + 1 ∧ 0 < n then 1 else 0) = sumF A 4 + sumF I0 4 * (if 0 < pos ∧ 0 < n then 1 else 0) + (if t = m then 0 else sumF It g) := by
  have hg4 : g = 0 ∨ g = 1 ∨ g = 2 ∨ g = 3 := by omega
  by_cases hp : pos = 0
  · obtain ⟨a, b, c⟩ := hp0 hp
    subst hp
    subst b
    have h2 := hn2 rfl
    rcases hg4 with rfl | rfl | rfl | rfl
    · have : ¬ 0 < n := fun h => by have := h2.mp h; omega
      simp [sumF, a, c, this]
    · have : 0 < n := h2.mpr (by omega)
      simp [sumF, a, c, this, h0]
    · have : 0 < n := h2.mpr (by omega)
      simp [sumF, a, c, this, h0]
      omega
    · have : 0 < n := h2.mpr (by omega)
      simp [sumF, a, c, this, h0]
      omega
  · have hn : 0 < n := by omega
    have hp' : 0 < pos := by omega
    by_cases ht : t = m
    · simp [sumF, hn, hp', ht, h0]
      omega
    · rcases hg4 with rfl | rfl | rfl | rfl
      · simp [sumF, hn, hp', ht, h0]
        omega
      · simp [sumF, hn, hp', ht, h0]
        omega
      · simp [sumF, hn, hp', ht, h0]
        omega
      · simp [sumF, hn, hp', ht, h0]
        omega
theorem sumF_swap {F : Nat → Nat → Nat} {P : Nat → Nat} {a : Nat} : ∀ b, sumF (fun s => sumF (fun d => F s d) b * P s) a = sumF (fun d => sumF (fun s => F s d * P s) a) b
  | 0 => sumF_zero _ (fun _ _ => Nat.zero_mul _)
  | b + 1 => by
    show sumF (fun s => (sumF (fun d => F s d) b + F s b) * P s) a = sumF (fun d => sumF (fun s => F s d * P s) a) b + sumF (fun s => F s b * P s) a
    rw [← sumF_swap b, ← sumF_add]
    exact sumF_ext _ (fun s _ => Nat.add_mul _ _ _)
def rW (m n pos : Nat) (P : Nat → Nat) (t : Nat) (p : (Nat → Nat) × Nat) : Prop := (∀ j, j < m → P j + (if 0 = j then 1 else 0) * (if 0 < pos ∧ 0 < n then 1 else 0) = p.1 j) ∧ t = p.2 ∧ t ≤ m ∧ (pos = 0 → t = 0 ∧ ∀ j, P j = 0)
theorem rW_s {w m n pos t g : Nat} {P N : Nat → Nat} {p : (Nat → Nat) × Nat} (h00 : dl w m 0 0 = 0) (h1 : 1 ≤ m) (hg : g < 4) (hpn : pos = 0 ∨ 0 < n) (hn2 : pos = 0 → (0 < n ↔ 0 < g)) (h : rW m n pos P t p) (hN : ∀ j, j < m → N j = sumF (cD w m P pos t g j) 4) : rW m n (pos + 1) N (if t = m then m else dl w m t g) (stp w m g p) := by
  obtain ⟨a1, a2, a3, a4⟩ := h
  subst a2
  refine ⟨fun j hj => ?_, rfl, ?_, fun h9 => by omega⟩
  · rw [hN j hj]
    show _ = if j < m then sumF (fun s => hS4 w m j s * p.1 s) m + (if p.2 = m then 0 else sumF (fun d => if dl w m p.2 d = j then 1 else 0) g) else 0
    rw [if_pos hj]
    have e1 : sumF (fun s => hS4 w m j s * p.1 s) m = sumF (fun d => sumF (fun s => I1 w m s d j * P s) m) 4 + sumF (fun d => I1 w m 0 d j) 4 * (if 0 < pos ∧ 0 < n then 1 else 0) := by
      rw [sumF_ext (g := fun s => hS4 w m j s * P s + hS4 w m j s * ((if 0 = s then 1 else 0) * (if 0 < pos ∧ 0 < n then 1 else 0))) m (fun s hs => by rw [← a1 s hs, Nat.mul_add]), sumF_add, sumF_pick, if_pos (by omega)]
      congr 1
      exact sumF_swap (F := fun s d => I1 w m s d j) 4
    rw [e1]
    exact rW_ar (A := fun d => sumF (fun s => I1 w m s d j * P s) m) (I0 := fun d => I1 w m 0 d j) (It := fun d => I1 w m p.2 d j) (by unfold I1; rw [h00]) hg hpn hn2 (fun h9 => ⟨by have := (a4 h9).1; omega, by rw [(a4 h9).1], fun d => sumF_zero _ (fun s _ => by rw [(a4 h9).2 s, Nat.mul_zero])⟩)
  · split
    · omega
    · exact dl_le (by omega)
theorem w_M_w97 {n w m len : Nat} {P : Nat → Nat} {x3 x4 x5 : Int32} {Q : ZOut → ZSt → Prop} : ∀ (f d : Nat) {S : ZSt} {u7 u8 : Option Value}, zK9 S w m n len → zEL m S 158 P → (∀ j, j < d → zL S 159 j = lN 0) → f + d = 4 → (∀ S', zX S S' → zEL m S' 158 P → zEL m S' 159 (fun _ => 0) → ∀ u7 u8, zW 2 m_M_whole 109 [some (.ref 130), some (.int (nI n)), some (.int (nI w)), some (.int x3), some (.int x4), some (.int x5), some (.int (nI 0)), u7, u8] [] S' Q) → zW 2 m_M_whole 97 [some (.ref 130), some (.int (nI n)), some (.int (nI w)), some (.int x3), some (.int x4), some (.int x5), some (.int (nI d)), u7, u8] [] S Q
  | 0, d, S, u7, u8, hK, hP, hz, hd, hQ => by
    obtain rfl : d = 4 := by omega
    exact b_M_whole_97 hK.1 ⟨fun _ => hQ S zX.rf hP ⟨hz, fun _ _ => rfl⟩ _ _, fun h9 => absurd (nI_le (Nat.le_refl _) (by omega)) h9⟩
  | f + 1, d, S, u7, u8, hK, hP, hz, hd, hQ => by
    refine b_M_whole_97 hK.1 ⟨fun h9 => absurd h9 (nI_ge (by omega) (by omega)), fun _ => ⟨zin (by omega) (by omega), ?_⟩⟩
    rw [zcl9 (by omega), nI_add]
    have j1 : zX S (zsL S 159 d (lN 0)) := zX.L (Or.inr rfl)
    refine w_M_w97 f (d + 1) (j1.k9 hK) (zX.p8 hP) (fun j hj => ?_) (by omega) (fun S' z => hQ S' (j1.tr z))
    by_cases e : j = d
    · rw [e, zL_eq]
    · rw [zL_o e]
      exact hz j (by omega)
theorem w_M_w213 {n w m len : Nat} {N : Nat → Nat} {x3 x4 : Int32} {pos : Nat} {Q : ZOut → ZSt → Prop} (hN0 : ∀ j, m ≤ j → N j = 0) : ∀ (f d : Nat) {S : ZSt} {u7 u8 : Option Value}, zK9 S w m n len → (∀ j, j < 4 → zL S 159 j = lN (N j)) → (∀ j, j < d → zL S 158 j = lN (N j)) → f + d = 4 → (∀ S', zX S S' → zEL m S' 158 N → ∀ u6 u7 u8, zW 2 m_M_whole 92 [some (.ref 130), some (.int (nI n)), some (.int (nI w)), some (.int x3), some (.int x4), some (.int (nI (pos + 1))), u6, u7, u8] [] S' Q) → zW 2 m_M_whole 213 [some (.ref 130), some (.int (nI n)), some (.int (nI w)), some (.int x3), some (.int x4), some (.int (nI pos)), some (.int (nI d)), u7, u8] [] S Q
  | 0, d, S, u7, u8, hK, hN, hz, hd, hQ => by
    obtain rfl : d = 4 := by omega
    refine b_M_whole_213 hK.1 ⟨fun _ => ?_, fun h9 => absurd (nI_le (Nat.le_refl _) (by omega)) h9⟩
    rw [nI_add]
    exact hQ S zX.rf ⟨hz, hN0⟩ _ _ _
  | f + 1, d, S, u7, u8, hK, hN, hz, hd, hQ => by
    refine b_M_whole_213 hK.1 ⟨fun h9 => absurd h9 (nI_ge (by omega) (by omega)), fun _ => ⟨zin (by omega) (by omega), zin (by omega) (by omega), ?_⟩⟩
    rw [zcl9 (by omega), nI_add, hN d (by omega)]
    have j1 : zX S (zsL S 158 d (lN (N d))) := zX.L (Or.inl rfl)
    have e9 : zL (zsL S 158 d (lN (N d))) 159 = zL S 159 := zup_ne (f := zL S) (k := 158) (j := 159) (v := vp_updL (zL S 158) d (lN (N d))) (by omega)
    refine w_M_w213 hN0 f (d + 1) (j1.k9 hK) (fun j hj => by rw [e9]; exact hN j hj) (fun j hj => ?_) (by omega) (fun S' z => hQ S' (j1.tr z))
    by_cases e : j = d
    · rw [e, zL_eq]
    · rw [zL_o e]
      exact hz j (by omega)
theorem w_M_w236 {n w m len t a : Nat} {P : Nat → Nat} {x3 : Int32} {S : ZSt} {Q : ZOut → ZSt → Prop} {u8 : Option Value} (hm : m ≤ 4) (ht : t ≤ m) (hK : zK9 S w m n len) (hP : zEL m S 158 P) (hQ : Q (.inl (some (.int (nI (a + sumF P m + (if t = m then 0 else 1)))))) S) : ∀ (f k : Nat), f + k = 4 → zW 2 m_M_whole 236 [some (.ref 130), some (.int (nI n)), some (.int (nI w)), some (.int x3), some (.int (tI m t)), some (.long (lN (a + sumF P k))), none, some (.int (nI k)), u8] [] S Q
  | 0, k, hk => by
    obtain rfl : k = 4 := by omega
    have e4 : sumF P 4 = sumF P m := by
      rw [show 4 = m + (4 - m) by omega]
      exact sumF_tail _ hP.2
    refine b_M_whole_236 hK.1 ⟨fun _ => ?_, fun h9 => absurd (nI_le (Nat.le_refl _) (by omega)) h9⟩
    rw [lN_add, lN_add, lN_i, lN_i, e4]
    unfold tI
    refine ⟨fun h9 => ?_, fun h9 => ?_⟩
    · by_cases e : t = m
      · rw [if_pos e] at hQ
        exact hQ
      · rw [if_neg e] at h9
        exact absurd h9 (zneq1 (by omega))
    · by_cases e : t = m
      · rw [if_pos e] at h9
        exact absurd rfl h9
      · rw [if_neg e] at hQ
        exact hQ
  | f + 1, k, hk => by
    refine b_M_whole_236 hK.1 ⟨fun h9 => absurd h9 (nI_ge (by omega) (by omega)), fun _ => ⟨zin (by omega) (by omega), ?_⟩⟩
    rw [zcl9 (by omega), hP.1 k (by omega), lN_add, nI_add, show a + sumF P k + P k = a + sumF P (k + 1) from Nat.add_assoc _ _ _]
    exact w_M_w236 hm ht hK hP hQ f (k + 1) (by omega)
theorem w_M_w92 {n w m len : Nat} {Q : ZOut → ZSt → Prop} (hm : m ≤ 4) (h1 : 1 ≤ m) (h00 : dl w m 0 0 = 0) (hl1 : 1 ≤ len) (hl : len ≤ 15) (hn31 : n < 2 ^ 30) (hn1 : 0 < n → 4 ^ (len - 1) ≤ n) (hn2 : n < 4 ^ len) (hn0 : n = 0 → len = 1) : ∀ (f pos : Nat) {S : ZSt} {P : Nat → Nat} {t : Nat} {u6 u7 u8 : Option Value}, f + pos = len → zK9 S w m n len → zEL m S 158 P → rW m n pos P t (PV w m n (15 - len + pos)) → (∀ S', zX S S' → Q (.inl (some (.int (nI (aW w m n))))) S') → zW 2 m_M_whole 92 [some (.ref 130), some (.int (nI n)), some (.int (nI w)), some (.int (nI len)), some (.int (tI m t)), some (.int (nI pos)), u6, u7, u8] [] S Q
  | 0, pos, S, P, t, u6, u7, u8, hf, hK, hP, hr, hQ => by
    obtain rfl : pos = len := by omega
    obtain ⟨a1, a2, a3, a4⟩ := hr
    have hq := hQ S zX.rf
    rw [show 15 - pos + pos = 15 by omega] at a1 a2
    have es : sumF (PV w m n 15).1 m = (if 0 < n then 1 else 0) + sumF P m := by
      rw [← sumF_ext m a1, sumF_add, sumF_ext (f := fun j => (if 0 = j then 1 else 0) * (if 0 < pos ∧ 0 < n then 1 else 0)) (g := fun s => (fun _ => 1) s * ((if 0 = s then 1 else 0) * (if 0 < pos ∧ 0 < n then 1 else 0))) m (fun k _ => (Nat.one_mul _).symm), sumF_pick, if_pos (by omega), Nat.one_mul, Nat.add_comm]
      congr 1
      by_cases hn : 0 < n
      · rw [if_pos ⟨by omega, hn⟩, if_pos hn]
      · rw [if_neg (fun h => hn h.2), if_neg hn]
    unfold aW at hq
    rw [es, ← a2] at hq
    refine b_M_whole_92 hK.1 ⟨fun _ => ⟨fun h9 => ?_, fun h9 => ?_⟩, fun h9 => absurd (nI_le (Nat.le_refl _) (by omega)) h9⟩
    · rw [if_neg (fun hn => nI_ge (a := 0) hn (by omega) h9)] at hq
      exact w_M_w236 (a := 0) hm a3 hK hP hq 4 0 (by omega)
    · rw [if_pos (Nat.pos_of_ne_zero (fun e => h9 (by rw [e]; decide)))] at hq
      exact w_M_w236 (a := 1) hm a3 hK hP hq 4 0 (by omega)
  | f + 1, pos, S, P, t, u6, u7, u8, hf, hK, hP, hr, hQ => by
    refine b_M_whole_92 hK.1 ⟨fun h9 => absurd h9 (nI_ge (by omega) (by omega)), fun _ => ?_⟩
    refine w_M_w97 4 0 hK hP (fun j hj => by omega) (by omega) (fun S1 z1 p1 p2 u7 u8 => ?_)
    refine w_M_w109 hm h1 hr.2.2.1 rfl (by omega) hl 4 0 (z1.k9 hK) p1 p2 (by omega) (fun j _ => rfl) (fun S2 N2 z2 q1 q2 q3 u7 u8 => ?_)
    refine w_M_w213 q2.2 4 0 (z2.k9 (z1.k9 hK)) q2.1 (fun j hj => by omega) (by omega) (fun S3 z3 q4 u6 u7 u8 => ?_)
    refine w_M_w92 hm h1 h00 hl1 hl hn31 hn1 hn2 hn0 f (pos + 1) (by omega) (z3.k9 (z2.k9 (z1.k9 hK))) q4 ?_ (fun S' z => hQ S' (((z1.tr z2).tr z3).tr z))
    have e : PV w m n (15 - len + (pos + 1)) = stp w m (n / 4 ^ (len - 1 - pos) % 4) (PV w m n (15 - len + pos)) := by
      show stp w m (n / 4 ^ (14 - (15 - len + pos)) % 4) (PV w m n (15 - len + pos)) = _
      rw [show 14 - (15 - len + pos) = len - 1 - pos by omega]
    rw [e]
    refine rW_s h00 h1 (Nat.mod_lt _ (by omega)) ?_ (fun hp => ?_) hr q3
    · by_cases hn : n = 0
      · have := hn0 hn
        omega
      · omega
    · subst hp
      rw [show len - 1 - 0 = len - 1 by omega]
      have hp4 : 0 < 4 ^ (len - 1) := Nat.pow_pos (by omega)
      have hlt : n / 4 ^ (len - 1) < 4 := by
        rw [Nat.div_lt_iff_lt_mul hp4, Nat.mul_comm, ← Nat.pow_succ, show (len - 1).succ = len by omega]
        exact hn2
      rw [Nat.mod_eq_of_lt hlt]
      refine ⟨fun hn => Nat.div_pos (hn1 hn) hp4, fun hd => ?_⟩
      exact Nat.pos_of_ne_zero (fun e => by
        rw [e, Nat.zero_div] at hd
        omega)
