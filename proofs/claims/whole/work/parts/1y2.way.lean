/-! A WAY's text: the object's loop -/
def zWq (m : Nat) (kd fa fb : Nat → Nat) : Prop := ∀ k, k < m → kd k ≤ 11 ∧ (kd k ≤ 4 → fa k < 12) ∧ (5 ≤ kd k → kd k ≤ 8 → fa k < 24) ∧ (kd k = 9 → fa k ≤ 24) ∧ (kd k = 10 → fa k ≤ 3) ∧ (2 ≤ kd k → kd k ≤ 3 → fb k < 12 ∧ fa k ≠ fb k) ∧ (kd k = 4 ∨ kd k = 7 ∨ kd k = 8 → fb k ≤ 24)
theorem wnu_r {b : Nat → Nat} {e i q a c r : Nat} (hi : i < 12) (h : wnu b e i q = .inr (a, c, r)) : i ≤ 11 ∧ (i ≤ 4 → a < 12) ∧ (5 ≤ i → i ≤ 8 → a < 24) ∧ (i = 9 → a ≤ 24) ∧ (i = 10 → a ≤ 3) ∧ (2 ≤ i → i ≤ 3 → c < 12 ∧ a ≠ c) ∧ (i = 4 ∨ i = 7 ∨ i = 8 → c ≤ 24) := by
  unfold wnu at h
  have A : ∀ x, x ≤ wm1 i → i ≠ 11 → (i ≤ 4 → x < 12) ∧ (5 ≤ i → i ≤ 8 → x < 24) ∧ (i = 9 → x ≤ 24) ∧ (i = 10 → x ≤ 3) := fun x hx hn => by
    unfold wm1 at hx
    split at hx
    · omega
    · split at hx
      · omega
      · split at hx <;> omega
  split at h
  · omega
  · rename_i c11
    split at h
    · split at h
      · rename_i ha
        split at h
        · rename_i hw
          have hw := wse_i.mp hw
          split at h
          · split at h
            · rename_i hc
              cases h
              obtain ⟨a1, a2, a3, a4⟩ := A _ ha c11
              have hc1 := hc.1
              unfold wm2 at hc1
              refine ⟨by omega, a1, a2, a3, a4, fun h2 h3 => ⟨?_, fun z => hc.2 ⟨by omega, z.symm⟩⟩, fun h4 => ?_⟩
              · rw [if_pos h3] at hc1
                omega
              · rw [if_neg (by omega)] at hc1
                exact hc1
            · cases h
          · cases h
        · rename_i hw
          have hw : ¬ (i = 2 ∨ i = 3 ∨ i = 4 ∨ i = 7 ∨ i = 8) := fun z => hw (wse_i.mpr z)
          cases h
          obtain ⟨a1, a2, a3, a4⟩ := A _ ha c11
          exact ⟨by omega, a1, a2, a3, a4, fun h2 h3 => by omega, fun h4 => by omega⟩
      · cases h
    · cases h
theorem wac_r {b : Nat → Nat} {e p i a c q : Nat} (hi : i < 12) (h : wac b e p i = .inr (a, c, q)) : i ≤ 11 ∧ (i ≤ 4 → a < 12) ∧ (5 ≤ i → i ≤ 8 → a < 24) ∧ (i = 9 → a ≤ 24) ∧ (i = 10 → a ≤ 3) ∧ (2 ≤ i → i ≤ 3 → c < 12 ∧ a ≠ c) ∧ (i = 4 ∨ i = 7 ∨ i = 8 → c ≤ 24) := by
  unfold wac at h
  split at h
  · cases h
  · rename_i y hy
    obtain ⟨y1, y2, y3⟩ := y
    split at h
    · cases h
      exact wnu_r hi hy
    · cases h
theorem zWq.put {m i a c : Nat} {kd fa fb : Nat → Nat} (h : zWq m kd fa fb) (hi : i ≤ 11 ∧ (i ≤ 4 → a < 12) ∧ (5 ≤ i → i ≤ 8 → a < 24) ∧ (i = 9 → a ≤ 24) ∧ (i = 10 → a ≤ 3) ∧ (2 ≤ i → i ≤ 3 → c < 12 ∧ a ≠ c) ∧ (i = 4 ∨ i = 7 ∨ i = 8 → c ≤ 24)) : zWq (m + 1) (upN kd m i) (upN fa m a) (upN fb m c) := fun k hk => by
  unfold upN
  by_cases e : k = m
  · rw [if_pos e, if_pos e, if_pos e]
    exact hi
  · rw [if_neg e, if_neg e, if_neg e]
    exact h k (by omega)
theorem wlp_s {b : Nat → Nat} {e f p m : Nat} {kd fa fb : Nat → Nat} : wlp b e (f + 1) p kd fa fb m = if tkK b e p = 0 then (if m = 0 then .inl (1, tkS b e p) else .inr (kd, fa, fb, m)) else match ixN (sW 23) (tkW b e p) 0 with
    | none => .inl (1, tkS b e p)
    | some i => if m = 24 then .inl (3, tkS b e p) else match wac b e p i with
      | .inl x => .inl x
      | .inr y => wlp b e f y.2.2 (upN kd m i) (upN fa m y.1) (upN fb m y.2.1) (m + 1) := rfl
theorem w_WR_r6 {b : Nat → Nat} {e : Nat} {Q : ZOut → ZSt → Prop} : ∀ (f m p : Nat) (kd fa fb : Nat → Nat) {u3 : Option Value} {S : ZSt}, f + m = 25 → 0 < f → zSh S → zCst S → jTx S b e → p ≤ e → jTo S b e p → jAc S m kd fa fb → zWq m kd fa fb → (∀ k t, wlp b e f p kd fa fb m = .inl (k, t) → ∀ S', zWr S S' → zI S' 76 7 = nI k → zI S' 76 8 = nI t → Q (.inl (some (.int (nI 0)))) S') → (∀ kd' fa' fb' n, wlp b e f p kd fa fb m = .inr (kd', fa', fb', n) → zWy n kd' fa' fb' → ∀ S', zWr S S' → jAc S' n kd' fa' fb' → zI S' 76 8 = zI S 76 8 → Q (.inl (some (.int (nI 1)))) S') → zW 7 m_WR_reads 6 [some (.ref 81), some (.ref 76), some (.int (nI m)), u3] [] S Q
  | 0, m, p, kd, fa, fb, u3, S, hf, h0, hS, hC, hx, hp, ht, ha, hq, bad, ok => absurd h0 (Nat.lt_irrefl 0)
  | f + 1, m, p, kd, fa, fb, u3, S, hf, h0, hS, hC, hx, hp, ht, ha, hq, bad, ok => by
    have kl := tkK_le (b := b) (e := e) (p := p)
    have J76 : ∀ {S' : ZSt} {k : Nat} {v : Int32}, zSh S' → zSh (zsI (zsI S' 76 7 (nI k)) 76 8 v) := fun h => ((zJ.rf (l := [76])).I rfl |>.I rfl |>.sh) h
    rw [wlp_s] at bad ok
    refine b_WR_reads_6 hS ⟨fun h9 => absurd h9 (nI_nlt (by omega) (by omega)), fun _ => ?_⟩
    rw [ht.2.2.1]
    refine ⟨fun h9 => ?_, fun h9 => ?_⟩
    · have kne : tkK b e p ≠ 0 := fun z => h9 (by rw [z]; rfl)
      rw [if_neg kne] at bad ok
      obtain ⟨w1, w2⟩ := wix_N (sW 23) (tkW b e p) 0
      refine w_Ta_wordAmong rfl hS hC hx hp ht (b_WR_reads_25 hS ?_)
      rw [w1]
      cases hi : ixN (sW 23) (tkW b e p) 0 with
      | none =>
        rw [hi] at bad
        refine w_N_isNotR rfl hS (fun ⟨k, a1, a2, a3⟩ => absurd a3.symm (nI_m1 (by omega))) (fun _ => b_WR_reads_30 hS ⟨fun h8 => absurd h8 (by decide), fun _ => w_Ta_refuse hS (b_WR_reads_34 (J76 hS) ⟨by decide, ?_⟩)⟩)
        rw [ht.1]
        exact bad 1 _ rfl _ zWr.rf.bad (by rw [zI_o (by omega), zI_s]) zI_s
      | some i =>
        rw [hi] at bad ok
        have i12 : i < 12 := by
          have := w2 i hi
          rw [sW23] at this
          omega
        refine w_N_isNotR rfl hS (fun _ => b_WR_reads_30 hS ⟨fun _ => ⟨fun h8 => ?_, fun h8 => w_Ta_refuse hS (b_WR_reads_41 (J76 hS) ⟨by decide, ?_⟩)⟩, fun h8 => absurd (by decide) h8⟩) (fun h8 => absurd ⟨i, by omega, by omega, rfl⟩ h8)
        · have m24 : m ≠ 24 := fun z => h8 (by rw [z])
          have bad' := bad
          have ok' := ok
          simp only [if_neg m24] at bad' ok'
          refine w_Ta_advance hS hx (tkE_le hp) ht.2.1 (fun S2 j2 t2 => b_WR_reads_44 (j2.sh hS) (w_WR_nums (j2.sh hS) (hC.J j2.1 rfl) (hx.J j2) hp t2 i12 (by omega) (ha.c (j2.1.2 82 rfl) (j2.1.2 83 rfl) (j2.1.2 84 rfl) (j2.1.2 85 rfl)) (fun k t hw S3 j3 a7 a8 => b_WR_reads_48 (j3.1.sh (j2.sh hS)) ⟨fun h7 => absurd rfl h7, fun _ => ⟨by decide, ?_⟩⟩) (fun a c q hw hq' S3 j3 t3 a3 a8 => b_WR_reads_48 (j3.1.sh (j2.sh hS)) ⟨fun _ => ?_, fun h7 => absurd (by decide) h7⟩)))
          · rw [hw] at bad'
            exact bad' k t rfl S3 (j2.w.tr j3) a7 a8
          · rw [hw] at bad' ok'
            rw [nI_add]
            exact w_WR_r6 f (m + 1) q _ _ _ (by omega) (by omega) (j3.1.sh (j2.sh hS)) ((hC.J j2.1 rfl).J j3.1 rfl) ((hx.J j2).W j3) hq' t3 a3 (hq.put (wac_r i12 hw)) (fun k t h S' j => bad' k t h S' ((j2.w.tr j3).tr j)) (fun kd' fa' fb' n h hy S' j r c8 => ok' kd' fa' fb' n h hy S' ((j2.w.tr j3).tr j) r (by rw [c8, a8, j2.2 8 (by omega)]))
        · have m24 : m = 24 := nEq (by omega) (by omega) (Classical.not_not.mp h8)
          simp only [if_pos m24] at bad
          rw [ht.1]
          exact bad 3 _ rfl _ zWr.rf.bad (by rw [zI_o (by omega), zI_s]) zI_s
    · have k0 : tkK b e p = 0 := nEq (by omega) (by omega) (by rw [nI_0]; exact Classical.not_not.mp h9)
      rw [if_pos k0] at bad ok
      refine ⟨fun h8 => ⟨by decide, ?_⟩, fun h8 => w_Ta_refuse hS (b_WR_reads_17 (J76 hS) ⟨fun _ => ⟨by decide, ?_⟩, fun h7 => absurd rfl h7⟩)⟩
      · have m0 : m ≠ 0 := fun z => by
          rw [z] at h8
          exact absurd h8 (by decide)
        rw [if_neg m0] at ok
        exact ok kd fa fb m rfl ⟨by omega, by omega, hq⟩ S zWr.rf ha rfl
      · have m0 : m = 0 := Classical.not_not.mp (fun z => h8 (by rw [← nI_0]; exact nI_lt (by omega) (by omega)))
        rw [if_pos m0] at bad
        rw [ht.1]
        exact bad 1 _ rfl _ zWr.rf.bad (by rw [zI_o (by omega), zI_s]) zI_s
theorem w_WR_reads {b : Nat → Nat} {e : Nat} {S : ZSt} {Q : ZOut → ZSt → Prop} (hS : zSh S) (hC : zCst S) (hx : jTx S b e) (ht : jTo S b e 0)
    (bad : ∀ k t, wlp b e 25 0 (fun _ => 0) (fun _ => 0) (fun _ => 0) 0 = .inl (k, t) → ∀ S', zWr S S' → zI S' 76 7 = nI k → zI S' 76 8 = nI t → Q (.inl (some (.int (nI 0)))) S')
    (ok : ∀ kd fa fb n, wlp b e 25 0 (fun _ => 0) (fun _ => 0) (fun _ => 0) 0 = .inr (kd, fa, fb, n) → zWy n kd fa fb → ∀ S', zWr S S' → jAc S' n kd fa fb → zI S' 76 8 = zI S 76 8 → Q (.inl (some (.int (nI 1)))) S') : zC m_WR_reads [.ref 81, .ref 76] S Q := by
  have j1 : zWr S (zsI S 82 3 (nI 0)) := ⟨zJ.rf.I rfl, fun j _ => by rw [zI_ne _ _ (by omega)]⟩
  have e76 : zI (zsI S 82 3 (nI 0)) 76 = zI S 76 := zI_ne _ _ (by omega)
  exact b_WR_reads hS (w_WR_r6 25 0 0 (fun _ => 0) (fun _ => 0) (fun _ => 0) (by omega) (by omega) (j1.1.sh hS) (hC.J j1.1 rfl) (hx.W j1) (Nat.zero_le _) (ht.c e76) ⟨zI_s, fun k hk => absurd hk (Nat.not_lt_zero k)⟩ (fun k hk => absurd hk (Nat.not_lt_zero k)) (fun k t h S' j => bad k t h S' (j1.tr j)) (fun kd fa fb n h hy S' j r c8 => ok kd fa fb n h hy S' (j1.tr j) r (by rw [c8, e76])))
