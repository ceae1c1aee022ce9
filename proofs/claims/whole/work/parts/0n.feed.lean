/-! Feeding the tape -/
theorem zs31 : ∀ n, n < 32 → (((nI n) &&& 31).toBitVec.smod 32).toNat = n := by decide +kernel
theorem zu31 : ∀ n, n < 32 → (((nI n).toUInt32 &&& Int32.toUInt32 31).toBitVec % 32).toNat = n := by decide +kernel
theorem zb255 : ∀ i, i < 32 → (nI 255).toBitVec.getLsbD i = decide (i < 8) := by decide +kernel
def by8 (x : Int32) (k : Nat) : Int32 := zUshr x (nI (24 - 8 * k)) &&& nI 255
theorem by8_s {x : Int32} {k : Nat} : zShr x (nI (24 - 8 * k)) &&& nI 255 = by8 x k := by
  apply Int32.toBitVec_inj.mp
  apply BitVec.eq_of_getLsbD_eq
  intro j hj
  unfold by8 zShr zUshr
  rw [Int32.toBitVec_and, Int32.toBitVec_and, BitVec.getLsbD_and, BitVec.getLsbD_and, zb255 j hj]
  by_cases h2 : j < 8
  · have e1 : ((x.toUInt32 >>> ((nI (24 - 8 * k)).toUInt32 &&& Int32.toUInt32 31)).toInt32).toBitVec.getLsbD j = x.toBitVec.getLsbD (24 - 8 * k + j) := by
      show (x.toUInt32 >>> ((nI (24 - 8 * k)).toUInt32 &&& Int32.toUInt32 31)).toBitVec.getLsbD j = x.toUInt32.toBitVec.getLsbD (24 - 8 * k + j)
      rw [UInt32.toBitVec_shiftRight]
      show (x.toUInt32.toBitVec >>> (((nI (24 - 8 * k)).toUInt32 &&& Int32.toUInt32 31).toBitVec % 32).toNat).getLsbD j = _
      rw [zu31 (24 - 8 * k) (by omega), BitVec.getLsbD_ushiftRight]
    have e2 : (x >>> ((nI (24 - 8 * k)) &&& 31)).toBitVec.getLsbD j = x.toBitVec.getLsbD (24 - 8 * k + j) := by
      rw [Int32.toBitVec_shiftRight]
      show (x.toBitVec.sshiftRight (((nI (24 - 8 * k)) &&& 31).toBitVec.smod 32).toNat).getLsbD j = _
      rw [zs31 (24 - 8 * k) (by omega), BitVec.getLsbD_sshiftRight, if_pos (by omega)]
      simp only [Bool.and_eq_right_iff_imp, Bool.not_eq_true', decide_eq_false_iff_not]
      intro _
      omega
    rw [e1, e2]
  · rw [decide_eq_false h2, Bool.and_false, Bool.and_false]
theorem zSh_of {S S' : ZSt} (h : S'.2 = S.2) (hS : zSh S) : zSh S' := by
  unfold zSh zc zn zR zx at *
  rw [h]
  exact hS
/-- bytes written behind one another: in the cell cb from n on, m of them; their number in the cell cl -/
def zApp (cb cl sl : Nat) (S S' : ZSt) (n m : Nat) (g : Nat → Int32) : Prop := S'.2 = S.2 ∧ (∀ c, c ≠ cb → c ≠ cl → zI S' c = zI S c) ∧ (∀ j, j ≠ sl → zI S' cl j = zI S cl j) ∧ zI S' cl sl = nI (n + m) ∧ ∀ j, zI S' cb j = if n ≤ j ∧ j < n + m then g (j - n) else zI S cb j
theorem zApp.rf {cb cl sl n : Nat} {S : ZSt} {g : Nat → Int32} (h : zI S cl sl = nI n) : zApp cb cl sl S S n 0 g := ⟨rfl, fun _ _ _ => rfl, fun _ _ => rfl, h, fun j => by rw [if_neg (by omega)]⟩
theorem zApp.step {cb cl sl n m : Nat} {S S1 : ZSt} {g : Nat → Int32} {v : Int32} (h : zApp cb cl sl S S1 n m g) (hc : cb ≠ cl) (hv : v = g m) : zApp cb cl sl S (zsI (zsI S1 cb (n + m) v) cl sl (nI (n + (m + 1)))) n (m + 1) g := by
  obtain ⟨h1, h2, h3, h4, h5⟩ := h
  subst hv
  refine ⟨h1, fun c hb hl => ?_, fun j hj => ?_, ?_, fun j => ?_⟩
  · rw [zI_ne _ _ hl, zI_ne _ _ hb]
    exact h2 c hb hl
  · rw [zI_eq, upd_ne hj, zI_ne _ _ (fun e => hc e.symm)]
    exact h3 j hj
  · rw [zI_eq, upd_self]
  · rw [zI_ne _ _ hc, zI_eq, zupd, h5]
    by_cases e : j = n + m
    · subst e
      rw [if_pos rfl, if_pos (by omega), Nat.add_sub_cancel_left]
    · rw [if_neg e]
      by_cases e2 : n ≤ j ∧ j < n + m
      · rw [if_pos e2, if_pos (by omega)]
      · rw [if_neg e2, if_neg (by omega)]
theorem w_Ta_add_2 : ∀ (f k : Nat) {x : Int32} {n m : Nat} {g : Nat → Int32} {S S1 : ZSt} {Q : ZOut → ZSt → Prop}, zSh S → f + k = 4 → zApp 77 76 1 S S1 n (m + k) g → n + (m + 4) ≤ 400 → (∀ i, i < 4 → g (m + i) = by8 x i) → (∀ S', zApp 77 76 1 S S' n (m + 4) g → Q (.inl none) S') →
    zW 1 m_Ta_add 2 [some (.ref 76), some (.int x), some (.int (if k < 4 then nI (24 - 8 * k) else - nI 8))] [] S1 Q
  | 0, k, x, n, m, g, S, S1, Q, hS, hk, ha, hn, hg, h => by
    obtain rfl : k = 4 := by omega
    exact b_Ta_add_2 (zSh_of ha.1 hS) ⟨fun _ => h S1 ha, fun h9 => absurd (by decide) h9⟩
  | f + 1, k, x, n, m, g, S, S1, Q, hS, hk, ha, hn, hg, h => by
    rw [if_pos (by omega)]
    have e1 : zI S1 76 1 = nI (n + (m + k)) := ha.2.2.2.1
    have z8 : zUshr x (nI (24 - 8 * k)) &&& nI 255 = by8 x k := rfl
    have hnx : nI (24 - 8 * k) + - nI 8 = if k + 1 < 4 then nI (24 - 8 * (k + 1)) else - nI 8 := by
      have : k = 0 ∨ k = 1 ∨ k = 2 ∨ k = 3 := by omega
      rcases this with rfl | rfl | rfl | rfl <;> decide
    refine b_Ta_add_2 (zSh_of ha.1 hS) ?_
    rw [e1, zcl9 (by omega), nI_add, z8, hnx]
    refine ⟨fun h9 => absurd h9 ?_, fun _ => ⟨fun h9 => absurd h9 ?_, fun _ => ⟨zin (by omega) (by omega), ?_⟩⟩⟩
    · exact nI_pos (by omega)
    · rw [nI_leI (by omega) (by omega)]
      omega
    · refine w_Ta_add_2 f (k + 1) hS (by omega) ?_ hn hg h
      have := ha.step (by omega) (hg k (by omega)).symm
      rw [show n + (m + k) + 1 = n + (m + k + 1) by omega]
      exact this
theorem w_Ta_add {x : Int32} {n m : Nat} {g : Nat → Int32} {S S1 : ZSt} {Q : ZOut → ZSt → Prop} (hS : zSh S) (ha : zApp 77 76 1 S S1 n m g) (hn : n + (m + 4) ≤ 400) (hg : ∀ i, i < 4 → g (m + i) = by8 x i) (h : ∀ S', zApp 77 76 1 S S' n (m + 4) g → Q (.inl none) S') : zC m_Ta_add [.ref 76, .int x] S1 Q :=
  b_Ta_add (zSh_of ha.1 hS) (w_Ta_add_2 4 0 hS (by omega) ha hn hg h)
/-- the twenty bytes of five ints -/
def by20 (a b c d e : Int32) (i : Nat) : Int32 := by8 (if i < 4 then a else if i < 8 then b else if i < 12 then c else if i < 16 then d else e) (i % 4)
theorem w_N_feed {a b c d e : Int32} {n : Nat} {S : ZSt} {Q : ZOut → ZSt → Prop} (hS : zSh S) (hn : zI S 76 1 = nI n) (hn4 : n ≤ 400) (h1 : n + 20 ≤ 400 → ∀ S', zApp 77 76 1 S S' n 20 (by20 a b c d e) → Q (.inl (some (.int (nI (n + 20))))) S') (h2 : 400 < n + 20 → Q (.inl (some (.int (- nI 1)))) S) :
    zC m_N_feed [.ref 75, .int a, .int b, .int c, .int d, .int e] S Q := by
  refine b_N_feed hS ?_
  rw [hn, nI_add]
  refine pk_le (n + 20) 400 (fun h9 => ?_) h2
  have g1 : ∀ m i : Nat, i < 4 → ∀ x : Int32, (if m + i < 4 then a else if m + i < 8 then b else if m + i < 12 then c else if m + i < 16 then d else e) = x → m % 4 = 0 → by20 a b c d e (m + i) = by8 x i := fun m i hi x hx hm => by
    unfold by20
    rw [hx, show (m + i) % 4 = i by omega]
  refine w_Ta_add (n := n) (m := 0) (g := by20 a b c d e) hS (zApp.rf hn) (by omega) (fun i hi => g1 0 i hi a (by rw [if_pos (by omega)]) rfl) (fun S1 a1 => b_N_feed_13 (zSh_of a1.1 hS) ?_)
  refine w_Ta_add (n := n) (m := 4) (g := by20 a b c d e) hS a1 (by omega) (fun i hi => g1 4 i hi b (by rw [if_neg (by omega), if_pos (by omega)]) rfl) (fun S2 a2 => b_N_feed_17 (zSh_of a2.1 hS) ?_)
  refine w_Ta_add (n := n) (m := 8) (g := by20 a b c d e) hS a2 (by omega) (fun i hi => g1 8 i hi c (by rw [if_neg (by omega), if_neg (by omega), if_pos (by omega)]) rfl) (fun S3 a3 => b_N_feed_21 (zSh_of a3.1 hS) ?_)
  refine w_Ta_add (n := n) (m := 12) (g := by20 a b c d e) hS a3 (by omega) (fun i hi => g1 12 i hi d (by rw [if_neg (by omega), if_neg (by omega), if_neg (by omega), if_pos (by omega)]) rfl) (fun S4 a4 => b_N_feed_25 (zSh_of a4.1 hS) ?_)
  refine w_Ta_add (n := n) (m := 16) (g := by20 a b c d e) hS a4 (by omega) (fun i hi => g1 16 i hi e (by rw [if_neg (by omega), if_neg (by omega), if_neg (by omega), if_neg (by omega)]) rfl) (fun S5 a5 => b_N_feed_29 (zSh_of a5.1 hS) ?_)
  rw [a5.2.2.2.1]
  exact h1 h9 S5 a5
theorem w_M_feed_13 : ∀ (f k : Nat) {a b c d e : Int32} {u7 : Option Value} {n : Nat} {S S1 : ZSt} {Q : ZOut → ZSt → Prop}, zSh S → f + k = 20 → zApp 134 130 5 S S1 n k (by20 a b c d e) → n + 20 ≤ 400 → (∀ S', zApp 134 130 5 S S' n 20 (by20 a b c d e) → Q (.inl (some (.int (nI (n + 20))))) S') →
    zW 1 m_M_feed 13 [some (.ref 130), some (.int a), some (.int b), some (.int c), some (.int d), some (.int e), some (.int (nI k)), u7] [] S1 Q
  | 0, k, a, b, c, d, e, u7, n, S, S1, Q, hS, hk, ha, hn, h => by
    obtain rfl : k = 20 := by omega
    refine b_M_feed_13 (zSh_of ha.1 hS) (pk_le 20 20 (fun _ => ?_) (fun h9 => by omega))
    rw [ha.2.2.2.1]
    exact h S1 ha
  | f + 1, k, a, b, c, d, e, u7, n, S, S1, Q, hS, hk, ha, hn, h => by
    have e1 : zI S1 130 5 = nI (n + k) := ha.2.2.2.1
    refine b_M_feed_13 (zSh_of ha.1 hS) (pk_le 20 k (fun h9 => by omega) (fun h9 => ?_))
    rw [e1, zcl9 (by omega), nI_add, nI_add, zRem_n (by omega) (by omega) (by omega), pk_mul, pk_sub (by omega), by8_s, by8_s, by8_s, by8_s, by8_s]
    have i1 : vp_in (nI (n + k)) 400 := zin (by omega) (by omega)
    have go : ∀ (x : Int32) (u : Option Value), x = (if k < 4 then a else if k < 8 then b else if k < 12 then c else if k < 16 then d else e) →
        zW 1 m_M_feed 13 [some (.ref 130), some (.int a), some (.int b), some (.int c), some (.int d), some (.int e), some (.int (nI (k + 1))), u] [] (zsI (zsI S1 134 (n + k) (by8 x (k % 4))) 130 5 (nI (n + k + 1))) Q := fun x u hx => by
      subst hx
      exact w_M_feed_13 f (k + 1) hS (by omega) (ha.step (by omega) rfl) hn h
    refine pk_le 4 k (fun k4 => pk_le 8 k (fun k8 => pk_le 12 k (fun k12 => pk_le 16 k (fun k16 => ⟨by decide, i1, go _ _ ?_⟩) (fun k16 => ⟨by decide, i1, go _ _ ?_⟩)) (fun k12 => ⟨by decide, i1, go _ _ ?_⟩)) (fun k8 => ⟨by decide, i1, go _ _ ?_⟩)) (fun k4 => ⟨by decide, i1, go _ _ ?_⟩)
    · rw [if_neg (by omega), if_neg (by omega), if_neg (by omega), if_neg (by omega)]
    · rw [if_neg (by omega), if_neg (by omega), if_neg (by omega), if_pos (by omega)]
    · rw [if_neg (by omega), if_neg (by omega), if_pos (by omega)]
    · rw [if_neg (by omega), if_pos (by omega)]
    · rw [if_pos (by omega)]
theorem w_M_feed {a b c d e : Int32} {n : Nat} {S : ZSt} {Q : ZOut → ZSt → Prop} (hS : zSh S) (hn : zI S 130 5 = nI n) (hn4 : n ≤ 400) (h1 : n + 20 ≤ 400 → ∀ S', zApp 134 130 5 (zsI S 130 0 (nI 0)) S' n 20 (by20 a b c d e) → Q (.inl (some (.int (nI (n + 20))))) S') (h2 : 400 < n + 20 → Q (.inl (some (.int (- nI 1)))) (zsI S 130 0 (nI 0))) :
    zC m_M_feed [.ref 130, .int a, .int b, .int c, .int d, .int e] S Q := by
  refine b_M_feed hS ?_
  rw [hn, nI_add]
  refine pk_le (n + 20) 400 (fun h9 => ?_) h2
  exact w_M_feed_13 20 0 (S := zsI S 130 0 (nI 0)) hS (by omega) (zApp.rf hn) h9 (h1 h9)
